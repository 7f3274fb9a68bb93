theorem dc8_readStep_123 : decode prog_10_method_4_code 123 = .ok (.imul, 1) := by decide +kernel
theorem dc8_readStep_124 : decode prog_10_method_4_code 124 = .ok (.iload_n 2, 1) := by decide +kernel
theorem dc8_readStep_125 : decode prog_10_method_4_code 125 = .ok (.iadd, 1) := by decide +kernel
theorem dc8_readStep_126 : decode prog_10_method_4_code 126 = .ok (.iastore, 1) := by decide +kernel
theorem dc8_readStep_127 : decode prog_10_method_4_code 127 = .ok (.goto 10, 3) := by decide +kernel
theorem dc8_readStep_130 : decode prog_10_method_4_code 130 = .ok (.aload_n 0, 1) := by decide +kernel
theorem dc8_readStep_131 : decode prog_10_method_4_code 131 = .ok (.getfield 20, 3) := by decide +kernel
theorem dc8_readStep_134 : decode prog_10_method_4_code 134 = .ok (.iload_n 1, 1) := by decide +kernel
theorem dc8_readStep_135 : decode prog_10_method_4_code 135 = .ok (.iload_n 2, 1) := by decide +kernel
theorem dc8_readStep_136 : decode prog_10_method_4_code 136 = .ok (.iastore, 1) := by decide +kernel
theorem dc8_readStep_137 : decode prog_10_method_4_code 137 = .ok (.iload_n 2, 1) := by decide +kernel
theorem dc8_readStep_138 : decode prog_10_method_4_code 138 = .ok (.iconst (-1), 1) := by decide +kernel
theorem dc8_readStep_139 : decode prog_10_method_4_code 139 = .ok (.if_icmp .eq 7, 3) := by decide +kernel
theorem dc8_readStep_142 : decode prog_10_method_4_code 142 = .ok (.iconst 1, 1) := by decide +kernel
theorem dc8_readStep_143 : decode prog_10_method_4_code 143 = .ok (.goto 4, 3) := by decide +kernel
theorem dc8_readStep_146 : decode prog_10_method_4_code 146 = .ok (.iconst 0, 1) := by decide +kernel
theorem dc8_readStep_147 : decode prog_10_method_4_code 147 = .ok (.ireturn, 1) := by decide +kernel
theorem dc8_readDigit_0 : decode prog_10_method_5_code 0 = .ok (.aload_n 0, 1) := by decide +kernel
theorem dc8_readDigit_1 : decode prog_10_method_5_code 1 = .ok (.getfield 23, 3) := by decide +kernel
theorem dc8_readDigit_4 : decode prog_10_method_5_code 4 = .ok (.invokevirtual 46, 3) := by decide +kernel
theorem dc8_readDigit_7 : decode prog_10_method_5_code 7 = .ok (.istore_n 1, 1) := by decide +kernel
theorem dc8_readDigit_8 : decode prog_10_method_5_code 8 = .ok (.iload_n 1, 1) := by decide +kernel
theorem dc8_readDigit_9 : decode prog_10_method_5_code 9 = .ok (.invokestatic 61, 3) := by decide +kernel
theorem dc8_readDigit_12 : decode prog_10_method_5_code 12 = .ok (.ifCond .ne 5, 3) := by decide +kernel
theorem dc8_readDigit_15 : decode prog_10_method_5_code 15 = .ok (.iconst (-1), 1) := by decide +kernel
theorem dc8_readDigit_16 : decode prog_10_method_5_code 16 = .ok (.ireturn, 1) := by decide +kernel
theorem dc8_readDigit_17 : decode prog_10_method_5_code 17 = .ok (.aload_n 0, 1) := by decide +kernel
theorem dc8_readDigit_18 : decode prog_10_method_5_code 18 = .ok (.getfield 23, 3) := by decide +kernel
theorem dc8_readDigit_21 : decode prog_10_method_5_code 21 = .ok (.dup, 1) := by decide +kernel
theorem dc8_readDigit_22 : decode prog_10_method_5_code 22 = .ok (.getfield 34, 3) := by decide +kernel
theorem dc8_readDigit_25 : decode prog_10_method_5_code 25 = .ok (.iconst 1, 1) := by decide +kernel
theorem dc8_readDigit_26 : decode prog_10_method_5_code 26 = .ok (.iadd, 1) := by decide +kernel
theorem dc8_readDigit_27 : decode prog_10_method_5_code 27 = .ok (.putfield 34, 3) := by decide +kernel
theorem dc8_readDigit_30 : decode prog_10_method_5_code 30 = .ok (.iload_n 1, 1) := by decide +kernel
theorem dc8_readDigit_31 : decode prog_10_method_5_code 31 = .ok (.bipush 48, 2) := by decide +kernel
theorem dc8_readDigit_33 : decode prog_10_method_5_code 33 = .ok (.isub, 1) := by decide +kernel
theorem dc8_readDigit_34 : decode prog_10_method_5_code 34 = .ok (.ireturn, 1) := by decide +kernel
theorem dc2_copyFrom_0 : decode prog_4_method_2_code 0 = .ok (.aload_n 1, 1) := by decide +kernel
theorem dc2_copyFrom_1 : decode prog_4_method_2_code 1 = .ok (.getfield 9, 3) := by decide +kernel
theorem dc2_copyFrom_4 : decode prog_4_method_2_code 4 = .ok (.iconst 0, 1) := by decide +kernel
theorem dc2_copyFrom_5 : decode prog_4_method_2_code 5 = .ok (.aload_n 0, 1) := by decide +kernel
theorem dc2_copyFrom_6 : decode prog_4_method_2_code 6 = .ok (.getfield 9, 3) := by decide +kernel
theorem dc2_copyFrom_9 : decode prog_4_method_2_code 9 = .ok (.iconst 0, 1) := by decide +kernel
theorem dc2_copyFrom_10 : decode prog_4_method_2_code 10 = .ok (.bipush 6, 2) := by decide +kernel
theorem dc2_copyFrom_12 : decode prog_4_method_2_code 12 = .ok (.invokestatic 27, 3) := by decide +kernel
theorem dc2_copyFrom_15 : decode prog_4_method_2_code 15 = .ok (.aload_n 1, 1) := by decide +kernel
theorem dc2_copyFrom_16 : decode prog_4_method_2_code 16 = .ok (.getfield 15, 3) := by decide +kernel
theorem dc2_copyFrom_19 : decode prog_4_method_2_code 19 = .ok (.iconst 0, 1) := by decide +kernel
theorem dc2_copyFrom_20 : decode prog_4_method_2_code 20 = .ok (.aload_n 0, 1) := by decide +kernel
theorem dc2_copyFrom_21 : decode prog_4_method_2_code 21 = .ok (.getfield 15, 3) := by decide +kernel
theorem dc2_copyFrom_24 : decode prog_4_method_2_code 24 = .ok (.iconst 0, 1) := by decide +kernel
theorem dc2_copyFrom_25 : decode prog_4_method_2_code 25 = .ok (.bipush 6, 2) := by decide +kernel
theorem dc2_copyFrom_27 : decode prog_4_method_2_code 27 = .ok (.invokestatic 27, 3) := by decide +kernel
theorem dc2_copyFrom_30 : decode prog_4_method_2_code 30 = .ok (.aload_n 1, 1) := by decide +kernel
theorem dc2_copyFrom_31 : decode prog_4_method_2_code 31 = .ok (.getfield 18, 3) := by decide +kernel
theorem dc2_copyFrom_34 : decode prog_4_method_2_code 34 = .ok (.iconst 0, 1) := by decide +kernel
theorem dc2_copyFrom_35 : decode prog_4_method_2_code 35 = .ok (.aload_n 0, 1) := by decide +kernel
theorem dc2_copyFrom_36 : decode prog_4_method_2_code 36 = .ok (.getfield 18, 3) := by decide +kernel
theorem dc2_copyFrom_39 : decode prog_4_method_2_code 39 = .ok (.iconst 0, 1) := by decide +kernel
theorem dc2_copyFrom_40 : decode prog_4_method_2_code 40 = .ok (.bipush 6, 2) := by decide +kernel
theorem dc2_copyFrom_42 : decode prog_4_method_2_code 42 = .ok (.invokestatic 27, 3) := by decide +kernel
theorem dc2_copyFrom_45 : decode prog_4_method_2_code 45 = .ok (.aload_n 1, 1) := by decide +kernel
theorem dc2_copyFrom_46 : decode prog_4_method_2_code 46 = .ok (.getfield 21, 3) := by decide +kernel
theorem dc2_copyFrom_49 : decode prog_4_method_2_code 49 = .ok (.iconst 0, 1) := by decide +kernel
theorem dc2_copyFrom_50 : decode prog_4_method_2_code 50 = .ok (.aload_n 0, 1) := by decide +kernel
theorem dc2_copyFrom_51 : decode prog_4_method_2_code 51 = .ok (.getfield 21, 3) := by decide +kernel
theorem dc2_copyFrom_54 : decode prog_4_method_2_code 54 = .ok (.iconst 0, 1) := by decide +kernel
theorem dc2_copyFrom_55 : decode prog_4_method_2_code 55 = .ok (.bipush 6, 2) := by decide +kernel
theorem dc2_copyFrom_57 : decode prog_4_method_2_code 57 = .ok (.invokestatic 27, 3) := by decide +kernel
theorem dc2_copyFrom_60 : decode prog_4_method_2_code 60 = .ok (.aload_n 1, 1) := by decide +kernel
theorem dc2_copyFrom_61 : decode prog_4_method_2_code 61 = .ok (.getfield 24, 3) := by decide +kernel
theorem dc2_copyFrom_64 : decode prog_4_method_2_code 64 = .ok (.iconst 0, 1) := by decide +kernel
theorem dc2_copyFrom_65 : decode prog_4_method_2_code 65 = .ok (.aload_n 0, 1) := by decide +kernel
theorem dc2_copyFrom_66 : decode prog_4_method_2_code 66 = .ok (.getfield 24, 3) := by decide +kernel
theorem dc2_copyFrom_69 : decode prog_4_method_2_code 69 = .ok (.iconst 0, 1) := by decide +kernel
theorem dc2_copyFrom_70 : decode prog_4_method_2_code 70 = .ok (.bipush 6, 2) := by decide +kernel
theorem dc2_copyFrom_72 : decode prog_4_method_2_code 72 = .ok (.invokestatic 27, 3) := by decide +kernel
theorem dc2_copyFrom_75 : decode prog_4_method_2_code 75 = .ok (.aload_n 0, 1) := by decide +kernel
theorem dc2_copyFrom_76 : decode prog_4_method_2_code 76 = .ok (.aload_n 1, 1) := by decide +kernel
theorem dc2_copyFrom_77 : decode prog_4_method_2_code 77 = .ok (.getfield 33, 3) := by decide +kernel
theorem dc2_copyFrom_80 : decode prog_4_method_2_code 80 = .ok (.putfield 33, 3) := by decide +kernel
theorem dc2_copyFrom_83 : decode prog_4_method_2_code 83 = .ok (.aload_n 0, 1) := by decide +kernel
theorem dc2_copyFrom_84 : decode prog_4_method_2_code 84 = .ok (.aload_n 1, 1) := by decide +kernel
theorem dc2_copyFrom_85 : decode prog_4_method_2_code 85 = .ok (.getfield 37, 3) := by decide +kernel
theorem dc2_copyFrom_88 : decode prog_4_method_2_code 88 = .ok (.putfield 37, 3) := by decide +kernel
theorem dc2_copyFrom_91 : decode prog_4_method_2_code 91 = .ok (.aload_n 0, 1) := by decide +kernel
theorem dc2_copyFrom_92 : decode prog_4_method_2_code 92 = .ok (.aload_n 1, 1) := by decide +kernel
theorem dc2_copyFrom_93 : decode prog_4_method_2_code 93 = .ok (.getfield 40, 3) := by decide +kernel
theorem dc2_copyFrom_96 : decode prog_4_method_2_code 96 = .ok (.putfield 40, 3) := by decide +kernel
theorem dc2_copyFrom_99 : decode prog_4_method_2_code 99 = .ok (.aload_n 0, 1) := by decide +kernel
theorem dc2_copyFrom_100 : decode prog_4_method_2_code 100 = .ok (.aload_n 1, 1) := by decide +kernel
theorem dc2_copyFrom_101 : decode prog_4_method_2_code 101 = .ok (.getfield 43, 3) := by decide +kernel
theorem dc2_copyFrom_104 : decode prog_4_method_2_code 104 = .ok (.putfield 43, 3) := by decide +kernel
theorem dc2_copyFrom_107 : decode prog_4_method_2_code 107 = .ok (.aload_n 0, 1) := by decide +kernel
theorem dc2_copyFrom_108 : decode prog_4_method_2_code 108 = .ok (.aload_n 1, 1) := by decide +kernel
theorem dc2_copyFrom_109 : decode prog_4_method_2_code 109 = .ok (.getfield 46, 3) := by decide +kernel
theorem dc2_copyFrom_112 : decode prog_4_method_2_code 112 = .ok (.putfield 46, 3) := by decide +kernel
theorem dc2_copyFrom_115 : decode prog_4_method_2_code 115 = .ok (.return_, 1) := by decide +kernel
theorem dc4_toLaw_0 : decode prog_6_method_2_code 0 = .ok (.new 19, 3) := by decide +kernel
theorem dc4_toLaw_3 : decode prog_6_method_2_code 3 = .ok (.dup, 1) := by decide +kernel
theorem dc4_toLaw_4 : decode prog_6_method_2_code 4 = .ok (.aload_n 0, 1) := by decide +kernel
theorem dc4_toLaw_5 : decode prog_6_method_2_code 5 = .ok (.getfield 9, 3) := by decide +kernel
theorem dc4_toLaw_8 : decode prog_6_method_2_code 8 = .ok (.aload_n 0, 1) := by decide +kernel
theorem dc4_toLaw_9 : decode prog_6_method_2_code 9 = .ok (.getfield 21, 3) := by decide +kernel
theorem dc4_toLaw_12 : decode prog_6_method_2_code 12 = .ok (.invokestatic 25, 3) := by decide +kernel
theorem dc4_toLaw_15 : decode prog_6_method_2_code 15 = .ok (.invokespecial 31, 3) := by decide +kernel
theorem dc4_toLaw_18 : decode prog_6_method_2_code 18 = .ok (.areturn, 1) := by decide +kernel
theorem dc3_init_0 : decode prog_5_method_1_code 0 = .ok (.aload_n 0, 1) := by decide +kernel
theorem dc3_init_1 : decode prog_5_method_1_code 1 = .ok (.invokespecial 3, 3) := by decide +kernel
theorem dc3_init_4 : decode prog_5_method_1_code 4 = .ok (.aload_n 0, 1) := by decide +kernel
theorem dc3_init_5 : decode prog_5_method_1_code 5 = .ok (.bipush 32, 2) := by decide +kernel
theorem dc3_init_7 : decode prog_5_method_1_code 7 = .ok (.newarray .int, 2) := by decide +kernel
theorem dc3_init_9 : decode prog_5_method_1_code 9 = .ok (.putfield 11, 3) := by decide +kernel
theorem dc3_init_12 : decode prog_5_method_1_code 12 = .ok (.aload_n 0, 1) := by decide +kernel
theorem dc3_init_13 : decode prog_5_method_1_code 13 = .ok (.aload_n 1, 1) := by decide +kernel
theorem dc3_init_14 : decode prog_5_method_1_code 14 = .ok (.putfield 15, 3) := by decide +kernel
theorem dc3_init_17 : decode prog_5_method_1_code 17 = .ok (.return_, 1) := by decide +kernel
theorem dc8_toPlan_0 : decode prog_10_method_2_code 0 = .ok (.new 9, 3) := by decide +kernel
theorem dc8_toPlan_3 : decode prog_10_method_2_code 3 = .ok (.dup, 1) := by decide +kernel
theorem dc8_toPlan_4 : decode prog_10_method_2_code 4 = .ok (.aload_n 0, 1) := by decide +kernel
theorem dc8_toPlan_5 : decode prog_10_method_2_code 5 = .ok (.getfield 11, 3) := by decide +kernel
theorem dc8_toPlan_8 : decode prog_10_method_2_code 8 = .ok (.aload_n 0, 1) := by decide +kernel
theorem dc8_toPlan_9 : decode prog_10_method_2_code 9 = .ok (.getfield 17, 3) := by decide +kernel
theorem dc8_toPlan_12 : decode prog_10_method_2_code 12 = .ok (.aload_n 0, 1) := by decide +kernel
theorem dc8_toPlan_13 : decode prog_10_method_2_code 13 = .ok (.getfield 20, 3) := by decide +kernel
theorem dc8_toPlan_16 : decode prog_10_method_2_code 16 = .ok (.aload_n 0, 1) := by decide +kernel
theorem dc8_toPlan_17 : decode prog_10_method_2_code 17 = .ok (.getfield 27, 3) := by decide +kernel
theorem dc8_toPlan_20 : decode prog_10_method_2_code 20 = .ok (.invokespecial 31, 3) := by decide +kernel
theorem dc8_toPlan_23 : decode prog_10_method_2_code 23 = .ok (.areturn, 1) := by decide +kernel
theorem dc7_init_0 : decode prog_9_method_1_code 0 = .ok (.aload_n 0, 1) := by decide +kernel
theorem dc7_init_1 : decode prog_9_method_1_code 1 = .ok (.invokespecial 1, 3) := by decide +kernel
theorem dc7_init_4 : decode prog_9_method_1_code 4 = .ok (.aload_n 0, 1) := by decide +kernel
theorem dc7_init_5 : decode prog_9_method_1_code 5 = .ok (.aload_n 1, 1) := by decide +kernel
theorem dc7_init_6 : decode prog_9_method_1_code 6 = .ok (.aload_n 1, 1) := by decide +kernel
theorem dc7_init_7 : decode prog_9_method_1_code 7 = .ok (.arraylength, 1) := by decide +kernel
theorem dc7_init_8 : decode prog_9_method_1_code 8 = .ok (.invokestatic 7, 3) := by decide +kernel
theorem dc7_init_11 : decode prog_9_method_1_code 11 = .ok (.putfield 13, 3) := by decide +kernel
theorem dc7_init_14 : decode prog_9_method_1_code 14 = .ok (.aload_n 0, 1) := by decide +kernel
theorem dc7_init_15 : decode prog_9_method_1_code 15 = .ok (.aload_n 2, 1) := by decide +kernel
theorem dc7_init_16 : decode prog_9_method_1_code 16 = .ok (.aload_n 2, 1) := by decide +kernel
theorem dc7_init_17 : decode prog_9_method_1_code 17 = .ok (.arraylength, 1) := by decide +kernel
theorem dc7_init_18 : decode prog_9_method_1_code 18 = .ok (.invokestatic 7, 3) := by decide +kernel
theorem dc7_init_21 : decode prog_9_method_1_code 21 = .ok (.putfield 19, 3) := by decide +kernel
theorem dc7_init_24 : decode prog_9_method_1_code 24 = .ok (.aload_n 0, 1) := by decide +kernel
theorem dc7_init_25 : decode prog_9_method_1_code 25 = .ok (.aload_n 3, 1) := by decide +kernel
theorem dc7_init_26 : decode prog_9_method_1_code 26 = .ok (.aload_n 3, 1) := by decide +kernel
theorem dc7_init_27 : decode prog_9_method_1_code 27 = .ok (.arraylength, 1) := by decide +kernel
theorem dc7_init_28 : decode prog_9_method_1_code 28 = .ok (.invokestatic 7, 3) := by decide +kernel
theorem dc7_init_31 : decode prog_9_method_1_code 31 = .ok (.putfield 22, 3) := by decide +kernel
theorem dc7_init_34 : decode prog_9_method_1_code 34 = .ok (.aload_n 0, 1) := by decide +kernel
theorem dc7_init_35 : decode prog_9_method_1_code 35 = .ok (.iload 4, 2) := by decide +kernel
theorem dc7_init_37 : decode prog_9_method_1_code 37 = .ok (.putfield 25, 3) := by decide +kernel
theorem dc7_init_40 : decode prog_9_method_1_code 40 = .ok (.return_, 1) := by decide +kernel
theorem dc2_sum_0 : decode prog_4_method_7_code 0 = .ok (.iconst 0, 1) := by decide +kernel
theorem dc2_sum_1 : decode prog_4_method_7_code 1 = .ok (.istore_n 2, 1) := by decide +kernel
theorem dc2_sum_2 : decode prog_4_method_7_code 2 = .ok (.iconst 0, 1) := by decide +kernel
theorem dc2_sum_3 : decode prog_4_method_7_code 3 = .ok (.istore_n 3, 1) := by decide +kernel
theorem dc2_sum_4 : decode prog_4_method_7_code 4 = .ok (.iload_n 3, 1) := by decide +kernel
theorem dc2_sum_5 : decode prog_4_method_7_code 5 = .ok (.aload_n 0, 1) := by decide +kernel
theorem dc2_sum_6 : decode prog_4_method_7_code 6 = .ok (.getfield 33, 3) := by decide +kernel
theorem dc2_sum_9 : decode prog_4_method_7_code 9 = .ok (.if_icmp .ge 15, 3) := by decide +kernel
theorem dc2_sum_12 : decode prog_4_method_7_code 12 = .ok (.iload_n 2, 1) := by decide +kernel
theorem dc2_sum_13 : decode prog_4_method_7_code 13 = .ok (.aload_n 1, 1) := by decide +kernel
theorem dc2_sum_14 : decode prog_4_method_7_code 14 = .ok (.iload_n 3, 1) := by decide +kernel
theorem dc2_sum_15 : decode prog_4_method_7_code 15 = .ok (.iaload, 1) := by decide +kernel
theorem dc2_sum_16 : decode prog_4_method_7_code 16 = .ok (.iadd, 1) := by decide +kernel
theorem dc2_sum_17 : decode prog_4_method_7_code 17 = .ok (.istore_n 2, 1) := by decide +kernel
theorem dc2_sum_18 : decode prog_4_method_7_code 18 = .ok (.iinc 3 1, 3) := by decide +kernel
theorem dc2_sum_21 : decode prog_4_method_7_code 21 = .ok (.goto (-17), 3) := by decide +kernel
theorem dc2_sum_24 : decode prog_4_method_7_code 24 = .ok (.iload_n 2, 1) := by decide +kernel
theorem dc2_sum_25 : decode prog_4_method_7_code 25 = .ok (.ireturn, 1) := by decide +kernel
theorem dc0_lengthIn_0 : decode prog_2_method_2_code 0 = .ok (.bipush 60, 2) := by decide +kernel
theorem dc0_lengthIn_2 : decode prog_2_method_2_code 2 = .ok (.iload_n 0, 1) := by decide +kernel
theorem dc0_lengthIn_3 : decode prog_2_method_2_code 3 = .ok (.invokestatic 21, 3) := by decide +kernel
theorem dc0_lengthIn_6 : decode prog_2_method_2_code 6 = .ok (.ireturn, 1) := by decide +kernel
theorem dc0_entry_0 : decode prog_2_method_4_code 0 = .ok (.iload_n 1, 1) := by decide +kernel
theorem dc0_entry_1 : decode prog_2_method_4_code 1 = .ok (.bipush 100, 2) := by decide +kernel
theorem dc0_entry_3 : decode prog_2_method_4_code 3 = .ok (.invokestatic 27, 3) := by decide +kernel
theorem dc0_entry_6 : decode prog_2_method_4_code 6 = .ok (.istore_n 3, 1) := by decide +kernel
theorem dc0_entry_7 : decode prog_2_method_4_code 7 = .ok (.iload_n 2, 1) := by decide +kernel
theorem dc0_entry_8 : decode prog_2_method_4_code 8 = .ok (.ifCond .ne 12, 3) := by decide +kernel
theorem dc0_entry_11 : decode prog_2_method_4_code 11 = .ok (.aload_n 0, 1) := by decide +kernel
theorem dc0_entry_12 : decode prog_2_method_4_code 12 = .ok (.getfield 11, 3) := by decide +kernel
theorem dc0_entry_15 : decode prog_2_method_4_code 15 = .ok (.iload_n 3, 1) := by decide +kernel
theorem dc0_entry_16 : decode prog_2_method_4_code 16 = .ok (.iaload, 1) := by decide +kernel
theorem dc0_entry_17 : decode prog_2_method_4_code 17 = .ok (.goto 23, 3) := by decide +kernel
theorem dc0_entry_20 : decode prog_2_method_4_code 20 = .ok (.iload_n 2, 1) := by decide +kernel
theorem dc0_entry_21 : decode prog_2_method_4_code 21 = .ok (.iconst 1, 1) := by decide +kernel
theorem dc0_entry_22 : decode prog_2_method_4_code 22 = .ok (.if_icmp .ne 12, 3) := by decide +kernel
theorem dc0_entry_25 : decode prog_2_method_4_code 25 = .ok (.aload_n 0, 1) := by decide +kernel
theorem dc0_entry_26 : decode prog_2_method_4_code 26 = .ok (.getfield 15, 3) := by decide +kernel
theorem dc0_entry_29 : decode prog_2_method_4_code 29 = .ok (.iload_n 3, 1) := by decide +kernel
theorem dc0_entry_30 : decode prog_2_method_4_code 30 = .ok (.iaload, 1) := by decide +kernel
theorem dc0_entry_31 : decode prog_2_method_4_code 31 = .ok (.goto 9, 3) := by decide +kernel
theorem dc0_entry_34 : decode prog_2_method_4_code 34 = .ok (.aload_n 0, 1) := by decide +kernel
theorem dc0_entry_35 : decode prog_2_method_4_code 35 = .ok (.getfield 18, 3) := by decide +kernel
theorem dc0_entry_38 : decode prog_2_method_4_code 38 = .ok (.iload_n 3, 1) := by decide +kernel
theorem dc0_entry_39 : decode prog_2_method_4_code 39 = .ok (.iaload, 1) := by decide +kernel
theorem dc0_entry_40 : decode prog_2_method_4_code 40 = .ok (.ireturn, 1) := by decide +kernel
theorem dc2_lowest_0 : decode prog_4_method_8_code 0 = .ok (.iconst 0, 1) := by decide +kernel
theorem dc2_lowest_1 : decode prog_4_method_8_code 1 = .ok (.istore_n 2, 1) := by decide +kernel
theorem dc2_lowest_2 : decode prog_4_method_8_code 2 = .ok (.iconst 1, 1) := by decide +kernel
theorem dc2_lowest_3 : decode prog_4_method_8_code 3 = .ok (.istore_n 3, 1) := by decide +kernel
theorem dc2_lowest_4 : decode prog_4_method_8_code 4 = .ok (.iload_n 3, 1) := by decide +kernel
theorem dc2_lowest_5 : decode prog_4_method_8_code 5 = .ok (.aload_n 0, 1) := by decide +kernel
theorem dc2_lowest_6 : decode prog_4_method_8_code 6 = .ok (.getfield 33, 3) := by decide +kernel
theorem dc2_lowest_9 : decode prog_4_method_8_code 9 = .ok (.if_icmp .ge 20, 3) := by decide +kernel
theorem dc2_lowest_12 : decode prog_4_method_8_code 12 = .ok (.aload_n 1, 1) := by decide +kernel
theorem dc2_lowest_13 : decode prog_4_method_8_code 13 = .ok (.iload_n 3, 1) := by decide +kernel
theorem dc2_lowest_14 : decode prog_4_method_8_code 14 = .ok (.iaload, 1) := by decide +kernel
theorem dc2_lowest_15 : decode prog_4_method_8_code 15 = .ok (.aload_n 1, 1) := by decide +kernel
theorem dc2_lowest_16 : decode prog_4_method_8_code 16 = .ok (.iload_n 2, 1) := by decide +kernel
theorem dc2_lowest_17 : decode prog_4_method_8_code 17 = .ok (.iaload, 1) := by decide +kernel
theorem dc2_lowest_18 : decode prog_4_method_8_code 18 = .ok (.if_icmp .ge 5, 3) := by decide +kernel
theorem dc2_lowest_21 : decode prog_4_method_8_code 21 = .ok (.iload_n 3, 1) := by decide +kernel
theorem dc2_lowest_22 : decode prog_4_method_8_code 22 = .ok (.istore_n 2, 1) := by decide +kernel
theorem dc2_lowest_23 : decode prog_4_method_8_code 23 = .ok (.iinc 3 1, 3) := by decide +kernel
theorem dc2_lowest_26 : decode prog_4_method_8_code 26 = .ok (.goto (-22), 3) := by decide +kernel
theorem dc2_lowest_29 : decode prog_4_method_8_code 29 = .ok (.iload_n 2, 1) := by decide +kernel
theorem dc2_lowest_30 : decode prog_4_method_8_code 30 = .ok (.ireturn, 1) := by decide +kernel
theorem dc2_highest_0 : decode prog_4_method_9_code 0 = .ok (.iconst 0, 1) := by decide +kernel
theorem dc2_highest_1 : decode prog_4_method_9_code 1 = .ok (.istore_n 2, 1) := by decide +kernel
theorem dc2_highest_2 : decode prog_4_method_9_code 2 = .ok (.iconst 1, 1) := by decide +kernel
theorem dc2_highest_3 : decode prog_4_method_9_code 3 = .ok (.istore_n 3, 1) := by decide +kernel
theorem dc2_highest_4 : decode prog_4_method_9_code 4 = .ok (.iload_n 3, 1) := by decide +kernel
theorem dc2_highest_5 : decode prog_4_method_9_code 5 = .ok (.aload_n 0, 1) := by decide +kernel
theorem dc2_highest_6 : decode prog_4_method_9_code 6 = .ok (.getfield 33, 3) := by decide +kernel
theorem dc2_highest_9 : decode prog_4_method_9_code 9 = .ok (.if_icmp .ge 20, 3) := by decide +kernel
theorem dc2_highest_12 : decode prog_4_method_9_code 12 = .ok (.aload_n 1, 1) := by decide +kernel
theorem dc2_highest_13 : decode prog_4_method_9_code 13 = .ok (.iload_n 3, 1) := by decide +kernel
theorem dc2_highest_14 : decode prog_4_method_9_code 14 = .ok (.iaload, 1) := by decide +kernel
theorem dc2_highest_15 : decode prog_4_method_9_code 15 = .ok (.aload_n 1, 1) := by decide +kernel
theorem dc2_highest_16 : decode prog_4_method_9_code 16 = .ok (.iload_n 2, 1) := by decide +kernel
theorem dc2_highest_17 : decode prog_4_method_9_code 17 = .ok (.iaload, 1) := by decide +kernel
theorem dc2_highest_18 : decode prog_4_method_9_code 18 = .ok (.if_icmp .le 5, 3) := by decide +kernel
theorem dc2_highest_21 : decode prog_4_method_9_code 21 = .ok (.iload_n 3, 1) := by decide +kernel
theorem dc2_highest_22 : decode prog_4_method_9_code 22 = .ok (.istore_n 2, 1) := by decide +kernel
theorem dc2_highest_23 : decode prog_4_method_9_code 23 = .ok (.iinc 3 1, 3) := by decide +kernel
theorem dc2_highest_26 : decode prog_4_method_9_code 26 = .ok (.goto (-22), 3) := by decide +kernel
theorem dc2_highest_29 : decode prog_4_method_9_code 29 = .ok (.iload_n 2, 1) := by decide +kernel
theorem dc2_highest_30 : decode prog_4_method_9_code 30 = .ok (.ireturn, 1) := by decide +kernel
theorem dc2_thirsty_0 : decode prog_4_method_10_code 0 = .ok (.iconst 0, 1) := by decide +kernel
theorem dc2_thirsty_1 : decode prog_4_method_10_code 1 = .ok (.istore_n 1, 1) := by decide +kernel
theorem dc2_thirsty_2 : decode prog_4_method_10_code 2 = .ok (.iconst 0, 1) := by decide +kernel
theorem dc2_thirsty_3 : decode prog_4_method_10_code 3 = .ok (.istore_n 2, 1) := by decide +kernel
theorem dc2_thirsty_4 : decode prog_4_method_10_code 4 = .ok (.iload_n 2, 1) := by decide +kernel
theorem dc2_thirsty_5 : decode prog_4_method_10_code 5 = .ok (.aload_n 0, 1) := by decide +kernel
theorem dc2_thirsty_6 : decode prog_4_method_10_code 6 = .ok (.getfield 33, 3) := by decide +kernel
theorem dc2_thirsty_9 : decode prog_4_method_10_code 9 = .ok (.if_icmp .ge 30, 3) := by decide +kernel
theorem dc2_thirsty_12 : decode prog_4_method_10_code 12 = .ok (.aload_n 0, 1) := by decide +kernel
theorem dc2_thirsty_13 : decode prog_4_method_10_code 13 = .ok (.getfield 15, 3) := by decide +kernel
theorem dc2_thirsty_16 : decode prog_4_method_10_code 16 = .ok (.iload_n 2, 1) := by decide +kernel
theorem dc2_thirsty_17 : decode prog_4_method_10_code 17 = .ok (.iaload, 1) := by decide +kernel
theorem dc2_thirsty_18 : decode prog_4_method_10_code 18 = .ok (.aload_n 0, 1) := by decide +kernel
theorem dc2_thirsty_19 : decode prog_4_method_10_code 19 = .ok (.getfield 18, 3) := by decide +kernel
theorem dc2_thirsty_22 : decode prog_4_method_10_code 22 = .ok (.iload_n 2, 1) := by decide +kernel
theorem dc2_thirsty_23 : decode prog_4_method_10_code 23 = .ok (.iaload, 1) := by decide +kernel
theorem dc2_thirsty_24 : decode prog_4_method_10_code 24 = .ok (.if_icmp .le 9, 3) := by decide +kernel
theorem dc2_thirsty_27 : decode prog_4_method_10_code 27 = .ok (.iload_n 1, 1) := by decide +kernel
theorem dc2_thirsty_28 : decode prog_4_method_10_code 28 = .ok (.iconst 1, 1) := by decide +kernel
theorem dc2_thirsty_29 : decode prog_4_method_10_code 29 = .ok (.iload_n 2, 1) := by decide +kernel
theorem dc2_thirsty_30 : decode prog_4_method_10_code 30 = .ok (.ishl, 1) := by decide +kernel
theorem dc2_thirsty_31 : decode prog_4_method_10_code 31 = .ok (.ior, 1) := by decide +kernel
theorem dc2_thirsty_32 : decode prog_4_method_10_code 32 = .ok (.istore_n 1, 1) := by decide +kernel
theorem dc2_thirsty_33 : decode prog_4_method_10_code 33 = .ok (.iinc 2 1, 3) := by decide +kernel
theorem dc2_thirsty_36 : decode prog_4_method_10_code 36 = .ok (.goto (-32), 3) := by decide +kernel
theorem dc2_thirsty_39 : decode prog_4_method_10_code 39 = .ok (.iload_n 1, 1) := by decide +kernel
theorem dc2_thirsty_40 : decode prog_4_method_10_code 40 = .ok (.ireturn, 1) := by decide +kernel
theorem dc2_has_0 : decode prog_4_method_5_code 0 = .ok (.iload_n 1, 1) := by decide +kernel
theorem dc2_has_1 : decode prog_4_method_5_code 1 = .ok (.ifCond .lt 15, 3) := by decide +kernel
theorem dc2_has_4 : decode prog_4_method_5_code 4 = .ok (.iload_n 1, 1) := by decide +kernel
theorem dc2_has_5 : decode prog_4_method_5_code 5 = .ok (.aload_n 0, 1) := by decide +kernel
theorem dc2_has_6 : decode prog_4_method_5_code 6 = .ok (.getfield 33, 3) := by decide +kernel
theorem dc2_has_9 : decode prog_4_method_5_code 9 = .ok (.if_icmp .ge 7, 3) := by decide +kernel
theorem dc2_has_12 : decode prog_4_method_5_code 12 = .ok (.iconst 1, 1) := by decide +kernel
theorem dc2_has_13 : decode prog_4_method_5_code 13 = .ok (.goto 4, 3) := by decide +kernel
theorem dc2_has_16 : decode prog_4_method_5_code 16 = .ok (.iconst 0, 1) := by decide +kernel
theorem dc2_has_17 : decode prog_4_method_5_code 17 = .ok (.ireturn, 1) := by decide +kernel
theorem dc5_keep_0 : decode prog_7_method_2_code 0 = .ok (.aload_n 1, 1) := by decide +kernel
theorem dc5_keep_1 : decode prog_7_method_2_code 1 = .ok (.aload_n 0, 1) := by decide +kernel
theorem dc5_keep_2 : decode prog_7_method_2_code 2 = .ok (.getfield 11, 3) := by decide +kernel
theorem dc5_keep_5 : decode prog_7_method_2_code 5 = .ok (.aload_n 0, 1) := by decide +kernel
theorem dc5_keep_6 : decode prog_7_method_2_code 6 = .ok (.getfield 25, 3) := by decide +kernel
theorem dc5_keep_9 : decode prog_7_method_2_code 9 = .ok (.bipush 26, 2) := by decide +kernel
theorem dc5_keep_11 : decode prog_7_method_2_code 11 = .ok (.imul, 1) := by decide +kernel
theorem dc5_keep_12 : decode prog_7_method_2_code 12 = .ok (.invokevirtual 29, 3) := by decide +kernel
theorem dc5_keep_15 : decode prog_7_method_2_code 15 = .ok (.aload_n 0, 1) := by decide +kernel
theorem dc5_keep_16 : decode prog_7_method_2_code 16 = .ok (.aload_n 0, 1) := by decide +kernel
theorem dc5_keep_17 : decode prog_7_method_2_code 17 = .ok (.getfield 25, 3) := by decide +kernel
theorem dc5_keep_20 : decode prog_7_method_2_code 20 = .ok (.iconst 1, 1) := by decide +kernel
theorem dc5_keep_21 : decode prog_7_method_2_code 21 = .ok (.iadd, 1) := by decide +kernel
theorem dc5_keep_22 : decode prog_7_method_2_code 22 = .ok (.bipush 40, 2) := by decide +kernel
theorem dc5_keep_24 : decode prog_7_method_2_code 24 = .ok (.irem, 1) := by decide +kernel
theorem dc5_keep_25 : decode prog_7_method_2_code 25 = .ok (.putfield 25, 3) := by decide +kernel
theorem dc5_keep_28 : decode prog_7_method_2_code 28 = .ok (.aload_n 0, 1) := by decide +kernel
theorem dc5_keep_29 : decode prog_7_method_2_code 29 = .ok (.bipush 40, 2) := by decide +kernel
theorem dc5_keep_31 : decode prog_7_method_2_code 31 = .ok (.aload_n 0, 1) := by decide +kernel
theorem dc5_keep_32 : decode prog_7_method_2_code 32 = .ok (.getfield 33, 3) := by decide +kernel
theorem dc5_keep_35 : decode prog_7_method_2_code 35 = .ok (.iconst 1, 1) := by decide +kernel
theorem dc5_keep_36 : decode prog_7_method_2_code 36 = .ok (.iadd, 1) := by decide +kernel
theorem dc5_keep_37 : decode prog_7_method_2_code 37 = .ok (.invokestatic 36, 3) := by decide +kernel
theorem dc5_keep_40 : decode prog_7_method_2_code 40 = .ok (.putfield 33, 3) := by decide +kernel
theorem dc5_keep_43 : decode prog_7_method_2_code 43 = .ok (.return_, 1) := by decide +kernel
theorem dc2_writeTo_0 : decode prog_4_method_3_code 0 = .ok (.iload_n 2, 1) := by decide +kernel
theorem dc2_writeTo_1 : decode prog_4_method_3_code 1 = .ok (.ifCond .lt 12, 3) := by decide +kernel
theorem dc2_writeTo_4 : decode prog_4_method_3_code 4 = .ok (.iload_n 2, 1) := by decide +kernel
theorem dc2_writeTo_5 : decode prog_4_method_3_code 5 = .ok (.aload_n 1, 1) := by decide +kernel
theorem dc2_writeTo_6 : decode prog_4_method_3_code 6 = .ok (.arraylength, 1) := by decide +kernel
theorem dc2_writeTo_7 : decode prog_4_method_3_code 7 = .ok (.bipush 26, 2) := by decide +kernel
theorem dc2_writeTo_9 : decode prog_4_method_3_code 9 = .ok (.isub, 1) := by decide +kernel
theorem dc2_writeTo_10 : decode prog_4_method_3_code 10 = .ok (.if_icmp .le 4, 3) := by decide +kernel
theorem dc2_writeTo_13 : decode prog_4_method_3_code 13 = .ok (.return_, 1) := by decide +kernel
theorem dc2_writeTo_14 : decode prog_4_method_3_code 14 = .ok (.aload_n 0, 1) := by decide +kernel
theorem dc2_writeTo_15 : decode prog_4_method_3_code 15 = .ok (.getfield 9, 3) := by decide +kernel
theorem dc2_writeTo_18 : decode prog_4_method_3_code 18 = .ok (.iconst 0, 1) := by decide +kernel
theorem dc2_writeTo_19 : decode prog_4_method_3_code 19 = .ok (.aload_n 1, 1) := by decide +kernel
theorem dc2_writeTo_20 : decode prog_4_method_3_code 20 = .ok (.iload_n 2, 1) := by decide +kernel
theorem dc2_writeTo_21 : decode prog_4_method_3_code 21 = .ok (.bipush 6, 2) := by decide +kernel
theorem dc2_writeTo_23 : decode prog_4_method_3_code 23 = .ok (.invokestatic 27, 3) := by decide +kernel
theorem dc2_writeTo_26 : decode prog_4_method_3_code 26 = .ok (.aload_n 0, 1) := by decide +kernel
theorem dc2_writeTo_27 : decode prog_4_method_3_code 27 = .ok (.getfield 15, 3) := by decide +kernel
theorem dc2_writeTo_30 : decode prog_4_method_3_code 30 = .ok (.iconst 0, 1) := by decide +kernel
theorem dc2_writeTo_31 : decode prog_4_method_3_code 31 = .ok (.aload_n 1, 1) := by decide +kernel
theorem dc2_writeTo_32 : decode prog_4_method_3_code 32 = .ok (.iload_n 2, 1) := by decide +kernel
theorem dc2_writeTo_33 : decode prog_4_method_3_code 33 = .ok (.bipush 6, 2) := by decide +kernel
theorem dc2_writeTo_35 : decode prog_4_method_3_code 35 = .ok (.iadd, 1) := by decide +kernel
theorem dc2_writeTo_36 : decode prog_4_method_3_code 36 = .ok (.bipush 6, 2) := by decide +kernel
theorem dc2_writeTo_38 : decode prog_4_method_3_code 38 = .ok (.invokestatic 27, 3) := by decide +kernel
theorem dc2_writeTo_41 : decode prog_4_method_3_code 41 = .ok (.aload_n 0, 1) := by decide +kernel
theorem dc2_writeTo_42 : decode prog_4_method_3_code 42 = .ok (.getfield 18, 3) := by decide +kernel
theorem dc2_writeTo_45 : decode prog_4_method_3_code 45 = .ok (.iconst 0, 1) := by decide +kernel
theorem dc2_writeTo_46 : decode prog_4_method_3_code 46 = .ok (.aload_n 1, 1) := by decide +kernel
theorem dc2_writeTo_47 : decode prog_4_method_3_code 47 = .ok (.iload_n 2, 1) := by decide +kernel
theorem dc2_writeTo_48 : decode prog_4_method_3_code 48 = .ok (.bipush 12, 2) := by decide +kernel
theorem dc2_writeTo_50 : decode prog_4_method_3_code 50 = .ok (.iadd, 1) := by decide +kernel
theorem dc2_writeTo_51 : decode prog_4_method_3_code 51 = .ok (.bipush 6, 2) := by decide +kernel
theorem dc2_writeTo_53 : decode prog_4_method_3_code 53 = .ok (.invokestatic 27, 3) := by decide +kernel
theorem dc2_writeTo_56 : decode prog_4_method_3_code 56 = .ok (.aload_n 0, 1) := by decide +kernel
theorem dc2_writeTo_57 : decode prog_4_method_3_code 57 = .ok (.getfield 24, 3) := by decide +kernel
theorem dc2_writeTo_60 : decode prog_4_method_3_code 60 = .ok (.iconst 0, 1) := by decide +kernel
theorem dc2_writeTo_61 : decode prog_4_method_3_code 61 = .ok (.aload_n 1, 1) := by decide +kernel
theorem dc2_writeTo_62 : decode prog_4_method_3_code 62 = .ok (.iload_n 2, 1) := by decide +kernel
theorem dc2_writeTo_63 : decode prog_4_method_3_code 63 = .ok (.bipush 18, 2) := by decide +kernel
theorem dc2_writeTo_65 : decode prog_4_method_3_code 65 = .ok (.iadd, 1) := by decide +kernel
theorem dc2_writeTo_66 : decode prog_4_method_3_code 66 = .ok (.bipush 6, 2) := by decide +kernel
theorem dc2_writeTo_68 : decode prog_4_method_3_code 68 = .ok (.invokestatic 27, 3) := by decide +kernel
theorem dc2_writeTo_71 : decode prog_4_method_3_code 71 = .ok (.aload_n 1, 1) := by decide +kernel
theorem dc2_writeTo_72 : decode prog_4_method_3_code 72 = .ok (.iload_n 2, 1) := by decide +kernel
theorem dc2_writeTo_73 : decode prog_4_method_3_code 73 = .ok (.bipush 24, 2) := by decide +kernel
theorem dc2_writeTo_75 : decode prog_4_method_3_code 75 = .ok (.iadd, 1) := by decide +kernel
theorem dc2_writeTo_76 : decode prog_4_method_3_code 76 = .ok (.aload_n 0, 1) := by decide +kernel
theorem dc2_writeTo_77 : decode prog_4_method_3_code 77 = .ok (.getfield 43, 3) := by decide +kernel
theorem dc2_writeTo_80 : decode prog_4_method_3_code 80 = .ok (.iastore, 1) := by decide +kernel
theorem dc2_writeTo_81 : decode prog_4_method_3_code 81 = .ok (.aload_n 1, 1) := by decide +kernel
theorem dc2_writeTo_82 : decode prog_4_method_3_code 82 = .ok (.iload_n 2, 1) := by decide +kernel
theorem dc2_writeTo_83 : decode prog_4_method_3_code 83 = .ok (.bipush 24, 2) := by decide +kernel
theorem dc2_writeTo_85 : decode prog_4_method_3_code 85 = .ok (.iadd, 1) := by decide +kernel
theorem dc2_writeTo_86 : decode prog_4_method_3_code 86 = .ok (.iconst 1, 1) := by decide +kernel
theorem dc2_writeTo_87 : decode prog_4_method_3_code 87 = .ok (.iadd, 1) := by decide +kernel
theorem dc2_writeTo_88 : decode prog_4_method_3_code 88 = .ok (.aload_n 0, 1) := by decide +kernel
theorem dc2_writeTo_89 : decode prog_4_method_3_code 89 = .ok (.getfield 46, 3) := by decide +kernel
theorem dc2_writeTo_92 : decode prog_4_method_3_code 92 = .ok (.iastore, 1) := by decide +kernel
theorem dc2_writeTo_93 : decode prog_4_method_3_code 93 = .ok (.return_, 1) := by decide +kernel
theorem dc9_look_0 : decode prog_11_method_2_code 0 = .ok (.aload_n 0, 1) := by decide +kernel
theorem dc9_look_1 : decode prog_11_method_2_code 1 = .ok (.aload_n 1, 1) := by decide +kernel
theorem dc9_look_2 : decode prog_11_method_2_code 2 = .ok (.iload_n 2, 1) := by decide +kernel
theorem dc9_look_3 : decode prog_11_method_2_code 3 = .ok (.invokevirtual 27, 3) := by decide +kernel
theorem dc9_look_6 : decode prog_11_method_2_code 6 = .ok (.aload_n 0, 1) := by decide +kernel
theorem dc9_look_7 : decode prog_11_method_2_code 7 = .ok (.iconst 0, 1) := by decide +kernel
theorem dc9_look_8 : decode prog_11_method_2_code 8 = .ok (.putfield 31, 3) := by decide +kernel
theorem dc9_look_11 : decode prog_11_method_2_code 11 = .ok (.aload_n 0, 1) := by decide +kernel
theorem dc9_look_12 : decode prog_11_method_2_code 12 = .ok (.iconst 0, 1) := by decide +kernel
theorem dc9_look_13 : decode prog_11_method_2_code 13 = .ok (.putfield 35, 3) := by decide +kernel
theorem dc9_look_16 : decode prog_11_method_2_code 16 = .ok (.iconst 0, 1) := by decide +kernel
theorem dc9_look_17 : decode prog_11_method_2_code 17 = .ok (.istore_n 3, 1) := by decide +kernel
theorem dc9_look_18 : decode prog_11_method_2_code 18 = .ok (.iload_n 3, 1) := by decide +kernel
theorem dc9_look_19 : decode prog_11_method_2_code 19 = .ok (.aload_n 0, 1) := by decide +kernel
theorem dc9_look_20 : decode prog_11_method_2_code 20 = .ok (.getfield 38, 3) := by decide +kernel
theorem dc9_look_23 : decode prog_11_method_2_code 23 = .ok (.if_icmp .ge 90, 3) := by decide +kernel
theorem dc9_look_26 : decode prog_11_method_2_code 26 = .ok (.aload_n 0, 1) := by decide +kernel
theorem dc9_look_27 : decode prog_11_method_2_code 27 = .ok (.getfield 18, 3) := by decide +kernel
theorem dc9_look_30 : decode prog_11_method_2_code 30 = .ok (.iload_n 3, 1) := by decide +kernel
theorem dc9_look_31 : decode prog_11_method_2_code 31 = .ok (.aload_n 0, 1) := by decide +kernel
theorem dc9_look_32 : decode prog_11_method_2_code 32 = .ok (.iload_n 3, 1) := by decide +kernel
theorem dc9_look_33 : decode prog_11_method_2_code 33 = .ok (.iload_n 2, 1) := by decide +kernel
theorem dc9_look_34 : decode prog_11_method_2_code 34 = .ok (.invokevirtual 41, 3) := by decide +kernel
theorem dc9_look_37 : decode prog_11_method_2_code 37 = .ok (.iastore, 1) := by decide +kernel
theorem dc9_look_38 : decode prog_11_method_2_code 38 = .ok (.aload_n 0, 1) := by decide +kernel
theorem dc9_look_39 : decode prog_11_method_2_code 39 = .ok (.getfield 21, 3) := by decide +kernel
theorem dc9_look_42 : decode prog_11_method_2_code 42 = .ok (.iload_n 3, 1) := by decide +kernel
theorem dc9_look_43 : decode prog_11_method_2_code 43 = .ok (.iconst 0, 1) := by decide +kernel
theorem dc9_look_44 : decode prog_11_method_2_code 44 = .ok (.iastore, 1) := by decide +kernel
theorem dc9_look_45 : decode prog_11_method_2_code 45 = .ok (.aload_n 0, 1) := by decide +kernel
theorem dc9_look_46 : decode prog_11_method_2_code 46 = .ok (.getfield 18, 3) := by decide +kernel
theorem dc9_look_49 : decode prog_11_method_2_code 49 = .ok (.iload_n 3, 1) := by decide +kernel
theorem dc9_look_50 : decode prog_11_method_2_code 50 = .ok (.iaload, 1) := by decide +kernel
theorem dc9_look_51 : decode prog_11_method_2_code 51 = .ok (.aload_n 1, 1) := by decide +kernel
theorem dc9_look_52 : decode prog_11_method_2_code 52 = .ok (.getfield 45, 3) := by decide +kernel
theorem dc9_look_55 : decode prog_11_method_2_code 55 = .ok (.if_icmp .lt 18, 3) := by decide +kernel
theorem dc9_look_58 : decode prog_11_method_2_code 58 = .ok (.aload_n 0, 1) := by decide +kernel
theorem dc9_look_59 : decode prog_11_method_2_code 59 = .ok (.dup, 1) := by decide +kernel
theorem dc9_look_60 : decode prog_11_method_2_code 60 = .ok (.getfield 31, 3) := by decide +kernel
theorem dc9_look_63 : decode prog_11_method_2_code 63 = .ok (.iconst 1, 1) := by decide +kernel
theorem dc9_look_64 : decode prog_11_method_2_code 64 = .ok (.iload_n 3, 1) := by decide +kernel
theorem dc9_look_65 : decode prog_11_method_2_code 65 = .ok (.ishl, 1) := by decide +kernel
theorem dc9_look_66 : decode prog_11_method_2_code 66 = .ok (.ior, 1) := by decide +kernel
theorem dc9_look_67 : decode prog_11_method_2_code 67 = .ok (.putfield 31, 3) := by decide +kernel
theorem dc9_look_70 : decode prog_11_method_2_code 70 = .ok (.goto 37, 3) := by decide +kernel
theorem dc9_look_73 : decode prog_11_method_2_code 73 = .ok (.aload_n 0, 1) := by decide +kernel
theorem dc9_look_74 : decode prog_11_method_2_code 74 = .ok (.getfield 21, 3) := by decide +kernel
theorem dc9_look_77 : decode prog_11_method_2_code 77 = .ok (.iload_n 3, 1) := by decide +kernel
theorem dc9_look_78 : decode prog_11_method_2_code 78 = .ok (.aload_n 1, 1) := by decide +kernel
theorem dc9_look_79 : decode prog_11_method_2_code 79 = .ok (.getfield 50, 3) := by decide +kernel
theorem dc9_look_82 : decode prog_11_method_2_code 82 = .ok (.iload_n 3, 1) := by decide +kernel
theorem dc9_look_83 : decode prog_11_method_2_code 83 = .ok (.iaload, 1) := by decide +kernel
theorem dc9_look_84 : decode prog_11_method_2_code 84 = .ok (.aload_n 0, 1) := by decide +kernel
theorem dc9_look_85 : decode prog_11_method_2_code 85 = .ok (.aload_n 1, 1) := by decide +kernel
theorem dc9_look_86 : decode prog_11_method_2_code 86 = .ok (.iload_n 3, 1) := by decide +kernel
theorem dc9_look_87 : decode prog_11_method_2_code 87 = .ok (.invokevirtual 53, 3) := by decide +kernel
theorem dc9_look_90 : decode prog_11_method_2_code 90 = .ok (.imul, 1) := by decide +kernel
theorem dc9_look_91 : decode prog_11_method_2_code 91 = .ok (.iastore, 1) := by decide +kernel
theorem dc9_look_92 : decode prog_11_method_2_code 92 = .ok (.aload_n 0, 1) := by decide +kernel
theorem dc9_look_93 : decode prog_11_method_2_code 93 = .ok (.dup, 1) := by decide +kernel
theorem dc9_look_94 : decode prog_11_method_2_code 94 = .ok (.getfield 35, 3) := by decide +kernel
theorem dc9_look_97 : decode prog_11_method_2_code 97 = .ok (.aload_n 0, 1) := by decide +kernel
theorem dc9_look_98 : decode prog_11_method_2_code 98 = .ok (.getfield 21, 3) := by decide +kernel
theorem dc9_look_101 : decode prog_11_method_2_code 101 = .ok (.iload_n 3, 1) := by decide +kernel
theorem dc9_look_102 : decode prog_11_method_2_code 102 = .ok (.iaload, 1) := by decide +kernel
theorem dc9_look_103 : decode prog_11_method_2_code 103 = .ok (.iadd, 1) := by decide +kernel
theorem dc9_look_104 : decode prog_11_method_2_code 104 = .ok (.putfield 35, 3) := by decide +kernel
theorem dc9_look_107 : decode prog_11_method_2_code 107 = .ok (.iinc 3 1, 3) := by decide +kernel
theorem dc9_look_110 : decode prog_11_method_2_code 110 = .ok (.goto (-92), 3) := by decide +kernel
theorem dc9_look_113 : decode prog_11_method_2_code 113 = .ok (.return_, 1) := by decide +kernel
theorem dc9_weighAll_0 : decode prog_11_method_3_code 0 = .ok (.aload_n 0, 1) := by decide +kernel
theorem dc9_weighAll_1 : decode prog_11_method_3_code 1 = .ok (.aload_n 1, 1) := by decide +kernel
theorem dc9_weighAll_2 : decode prog_11_method_3_code 2 = .ok (.getfield 57, 3) := by decide +kernel
theorem dc9_weighAll_5 : decode prog_11_method_3_code 5 = .ok (.putfield 38, 3) := by decide +kernel
theorem dc9_weighAll_8 : decode prog_11_method_3_code 8 = .ok (.aload_n 0, 1) := by decide +kernel
theorem dc9_weighAll_9 : decode prog_11_method_3_code 9 = .ok (.aload_n 0, 1) := by decide +kernel
theorem dc9_weighAll_10 : decode prog_11_method_3_code 10 = .ok (.getfield 38, 3) := by decide +kernel
theorem dc9_weighAll_13 : decode prog_11_method_3_code 13 = .ok (.ifCond .ne 7, 3) := by decide +kernel
theorem dc9_weighAll_16 : decode prog_11_method_3_code 16 = .ok (.iconst 0, 1) := by decide +kernel
theorem dc9_weighAll_17 : decode prog_11_method_3_code 17 = .ok (.goto 9, 3) := by decide +kernel
theorem dc9_weighAll_20 : decode prog_11_method_3_code 20 = .ok (.iload_n 2, 1) := by decide +kernel
theorem dc9_weighAll_21 : decode prog_11_method_3_code 21 = .ok (.aload_n 0, 1) := by decide +kernel
theorem dc9_weighAll_22 : decode prog_11_method_3_code 22 = .ok (.getfield 38, 3) := by decide +kernel
theorem dc9_weighAll_25 : decode prog_11_method_3_code 25 = .ok (.idiv, 1) := by decide +kernel
theorem dc9_weighAll_26 : decode prog_11_method_3_code 26 = .ok (.putfield 58, 3) := by decide +kernel
theorem dc9_weighAll_29 : decode prog_11_method_3_code 29 = .ok (.iconst 0, 1) := by decide +kernel
theorem dc9_weighAll_30 : decode prog_11_method_3_code 30 = .ok (.istore_n 3, 1) := by decide +kernel
theorem dc9_weighAll_31 : decode prog_11_method_3_code 31 = .ok (.iload_n 3, 1) := by decide +kernel
theorem dc9_weighAll_32 : decode prog_11_method_3_code 32 = .ok (.aload_n 0, 1) := by decide +kernel
theorem dc9_weighAll_33 : decode prog_11_method_3_code 33 = .ok (.getfield 38, 3) := by decide +kernel
theorem dc9_weighAll_36 : decode prog_11_method_3_code 36 = .ok (.if_icmp .ge 15, 3) := by decide +kernel
theorem dc9_weighAll_39 : decode prog_11_method_3_code 39 = .ok (.aload_n 0, 1) := by decide +kernel
theorem dc9_weighAll_40 : decode prog_11_method_3_code 40 = .ok (.aload_n 1, 1) := by decide +kernel
theorem dc9_weighAll_41 : decode prog_11_method_3_code 41 = .ok (.iload_n 3, 1) := by decide +kernel
theorem dc9_weighAll_42 : decode prog_11_method_3_code 42 = .ok (.invokevirtual 61, 3) := by decide +kernel
theorem dc9_weighAll_45 : decode prog_11_method_3_code 45 = .ok (.iinc 3 1, 3) := by decide +kernel
theorem dc9_weighAll_48 : decode prog_11_method_3_code 48 = .ok (.goto (-17), 3) := by decide +kernel
theorem dc9_weighAll_51 : decode prog_11_method_3_code 51 = .ok (.return_, 1) := by decide +kernel
theorem dc9_weigh_0 : decode prog_11_method_4_code 0 = .ok (.aload_n 0, 1) := by decide +kernel
theorem dc9_weigh_1 : decode prog_11_method_4_code 1 = .ok (.getfield 9, 3) := by decide +kernel
theorem dc9_weigh_4 : decode prog_11_method_4_code 4 = .ok (.iload_n 2, 1) := by decide +kernel
theorem dc9_weigh_5 : decode prog_11_method_4_code 5 = .ok (.aload_n 1, 1) := by decide +kernel
theorem dc9_weigh_6 : decode prog_11_method_4_code 6 = .ok (.aload_n 1, 1) := by decide +kernel
theorem dc9_weigh_7 : decode prog_11_method_4_code 7 = .ok (.getfield 64, 3) := by decide +kernel
theorem dc9_weigh_10 : decode prog_11_method_4_code 10 = .ok (.iload_n 2, 1) := by decide +kernel
theorem dc9_weigh_11 : decode prog_11_method_4_code 11 = .ok (.iaload, 1) := by decide +kernel
theorem dc9_weigh_12 : decode prog_11_method_4_code 12 = .ok (.invokevirtual 67, 3) := by decide +kernel
theorem dc9_weigh_15 : decode prog_11_method_4_code 15 = .ok (.iastore, 1) := by decide +kernel
theorem dc9_weigh_16 : decode prog_11_method_4_code 16 = .ok (.aload_n 0, 1) := by decide +kernel
theorem dc9_weigh_17 : decode prog_11_method_4_code 17 = .ok (.getfield 71, 3) := by decide +kernel
theorem dc9_weigh_20 : decode prog_11_method_4_code 20 = .ok (.ifnonnull 23, 3) := by decide +kernel
theorem dc9_weigh_23 : decode prog_11_method_4_code 23 = .ok (.aload_n 0, 1) := by decide +kernel
theorem dc9_weigh_24 : decode prog_11_method_4_code 24 = .ok (.getfield 15, 3) := by decide +kernel
theorem dc9_weigh_27 : decode prog_11_method_4_code 27 = .ok (.iload_n 2, 1) := by decide +kernel
theorem dc9_weigh_28 : decode prog_11_method_4_code 28 = .ok (.aload_n 0, 1) := by decide +kernel
theorem dc9_weigh_29 : decode prog_11_method_4_code 29 = .ok (.getfield 58, 3) := by decide +kernel
theorem dc9_weigh_32 : decode prog_11_method_4_code 32 = .ok (.aload_n 0, 1) := by decide +kernel
theorem dc9_weigh_33 : decode prog_11_method_4_code 33 = .ok (.getfield 9, 3) := by decide +kernel
theorem dc9_weigh_36 : decode prog_11_method_4_code 36 = .ok (.iload_n 2, 1) := by decide +kernel
theorem dc9_weigh_37 : decode prog_11_method_4_code 37 = .ok (.iaload, 1) := by decide +kernel
theorem dc9_weigh_38 : decode prog_11_method_4_code 38 = .ok (.iconst 2, 1) := by decide +kernel
theorem dc9_weigh_39 : decode prog_11_method_4_code 39 = .ok (.idiv, 1) := by decide +kernel
theorem dc9_weigh_40 : decode prog_11_method_4_code 40 = .ok (.iadd, 1) := by decide +kernel
theorem dc9_weigh_41 : decode prog_11_method_4_code 41 = .ok (.iastore, 1) := by decide +kernel
theorem dc9_weigh_42 : decode prog_11_method_4_code 42 = .ok (.return_, 1) := by decide +kernel
theorem dc9_weigh_43 : decode prog_11_method_4_code 43 = .ok (.aload_n 0, 1) := by decide +kernel
theorem dc9_weigh_44 : decode prog_11_method_4_code 44 = .ok (.getfield 24, 3) := by decide +kernel
theorem dc9_weigh_47 : decode prog_11_method_4_code 47 = .ok (.iconst 0, 1) := by decide +kernel
theorem dc9_weigh_48 : decode prog_11_method_4_code 48 = .ok (.aload_n 0, 1) := by decide +kernel
theorem dc9_weigh_49 : decode prog_11_method_4_code 49 = .ok (.getfield 9, 3) := by decide +kernel
theorem dc9_weigh_52 : decode prog_11_method_4_code 52 = .ok (.iload_n 2, 1) := by decide +kernel
theorem dc9_weigh_53 : decode prog_11_method_4_code 53 = .ok (.iaload, 1) := by decide +kernel
theorem dc9_weigh_54 : decode prog_11_method_4_code 54 = .ok (.iastore, 1) := by decide +kernel
theorem dc9_weigh_55 : decode prog_11_method_4_code 55 = .ok (.aload_n 0, 1) := by decide +kernel
theorem dc9_weigh_56 : decode prog_11_method_4_code 56 = .ok (.getfield 24, 3) := by decide +kernel
theorem dc9_weigh_59 : decode prog_11_method_4_code 59 = .ok (.iconst 1, 1) := by decide +kernel
theorem dc9_weigh_60 : decode prog_11_method_4_code 60 = .ok (.aload_n 1, 1) := by decide +kernel
theorem dc9_weigh_61 : decode prog_11_method_4_code 61 = .ok (.getfield 75, 3) := by decide +kernel
theorem dc9_weigh_64 : decode prog_11_method_4_code 64 = .ok (.iload_n 2, 1) := by decide +kernel
theorem dc9_weigh_65 : decode prog_11_method_4_code 65 = .ok (.iaload, 1) := by decide +kernel
theorem dc9_weigh_66 : decode prog_11_method_4_code 66 = .ok (.iastore, 1) := by decide +kernel
theorem dc9_weigh_67 : decode prog_11_method_4_code 67 = .ok (.aload_n 0, 1) := by decide +kernel
theorem dc9_weigh_68 : decode prog_11_method_4_code 68 = .ok (.getfield 24, 3) := by decide +kernel
theorem dc9_weigh_71 : decode prog_11_method_4_code 71 = .ok (.iconst 2, 1) := by decide +kernel
theorem dc9_weigh_72 : decode prog_11_method_4_code 72 = .ok (.aload_n 1, 1) := by decide +kernel
theorem dc9_weigh_73 : decode prog_11_method_4_code 73 = .ok (.getfield 78, 3) := by decide +kernel
theorem dc9_weigh_76 : decode prog_11_method_4_code 76 = .ok (.iload_n 2, 1) := by decide +kernel
theorem dc9_weigh_77 : decode prog_11_method_4_code 77 = .ok (.iaload, 1) := by decide +kernel
theorem dc9_weigh_78 : decode prog_11_method_4_code 78 = .ok (.iastore, 1) := by decide +kernel
theorem dc9_weigh_79 : decode prog_11_method_4_code 79 = .ok (.aload_n 0, 1) := by decide +kernel
theorem dc9_weigh_80 : decode prog_11_method_4_code 80 = .ok (.getfield 24, 3) := by decide +kernel
theorem dc9_weigh_83 : decode prog_11_method_4_code 83 = .ok (.iconst 3, 1) := by decide +kernel
theorem dc9_weigh_84 : decode prog_11_method_4_code 84 = .ok (.aload_n 1, 1) := by decide +kernel
theorem dc9_weigh_85 : decode prog_11_method_4_code 85 = .ok (.getfield 50, 3) := by decide +kernel
theorem dc9_weigh_88 : decode prog_11_method_4_code 88 = .ok (.iload_n 2, 1) := by decide +kernel
theorem dc9_weigh_89 : decode prog_11_method_4_code 89 = .ok (.iaload, 1) := by decide +kernel
theorem dc9_weigh_90 : decode prog_11_method_4_code 90 = .ok (.iastore, 1) := by decide +kernel
theorem dc9_weigh_91 : decode prog_11_method_4_code 91 = .ok (.aload_n 0, 1) := by decide +kernel
theorem dc9_weigh_92 : decode prog_11_method_4_code 92 = .ok (.getfield 24, 3) := by decide +kernel
theorem dc9_weigh_95 : decode prog_11_method_4_code 95 = .ok (.iconst 4, 1) := by decide +kernel
theorem dc9_weigh_96 : decode prog_11_method_4_code 96 = .ok (.aload_n 0, 1) := by decide +kernel
theorem dc9_weigh_97 : decode prog_11_method_4_code 97 = .ok (.getfield 58, 3) := by decide +kernel
theorem dc9_weigh_100 : decode prog_11_method_4_code 100 = .ok (.iastore, 1) := by decide +kernel
theorem dc9_weigh_101 : decode prog_11_method_4_code 101 = .ok (.aload_n 0, 1) := by decide +kernel
theorem dc9_weigh_102 : decode prog_11_method_4_code 102 = .ok (.getfield 24, 3) := by decide +kernel
theorem dc9_weigh_105 : decode prog_11_method_4_code 105 = .ok (.iconst 5, 1) := by decide +kernel
theorem dc9_weigh_106 : decode prog_11_method_4_code 106 = .ok (.aload_n 1, 1) := by decide +kernel
theorem dc9_weigh_107 : decode prog_11_method_4_code 107 = .ok (.getfield 81, 3) := by decide +kernel
theorem dc9_weigh_110 : decode prog_11_method_4_code 110 = .ok (.iastore, 1) := by decide +kernel
theorem dc9_weigh_111 : decode prog_11_method_4_code 111 = .ok (.aload_n 0, 1) := by decide +kernel
theorem dc9_weigh_112 : decode prog_11_method_4_code 112 = .ok (.getfield 15, 3) := by decide +kernel
theorem dc9_weigh_115 : decode prog_11_method_4_code 115 = .ok (.iload_n 2, 1) := by decide +kernel
theorem dc9_weigh_116 : decode prog_11_method_4_code 116 = .ok (.aload_n 0, 1) := by decide +kernel
theorem dc9_weigh_117 : decode prog_11_method_4_code 117 = .ok (.getfield 58, 3) := by decide +kernel
theorem dc9_weigh_120 : decode prog_11_method_4_code 120 = .ok (.iconst 0, 1) := by decide +kernel
theorem dc9_weigh_121 : decode prog_11_method_4_code 121 = .ok (.aload_n 0, 1) := by decide +kernel
theorem dc9_weigh_122 : decode prog_11_method_4_code 122 = .ok (.getfield 71, 3) := by decide +kernel
theorem dc9_weigh_125 : decode prog_11_method_4_code 125 = .ok (.aload_n 0, 1) := by decide +kernel
theorem dc9_weigh_126 : decode prog_11_method_4_code 126 = .ok (.getfield 24, 3) := by decide +kernel
theorem dc9_weigh_129 : decode prog_11_method_4_code 129 = .ok (.invokevirtual 84, 3) := by decide +kernel
theorem dc9_weigh_132 : decode prog_11_method_4_code 132 = .ok (.bipush 99, 2) := by decide +kernel
theorem dc9_weigh_134 : decode prog_11_method_4_code 134 = .ok (.invokestatic 90, 3) := by decide +kernel
theorem dc9_weigh_137 : decode prog_11_method_4_code 137 = .ok (.iadd, 1) := by decide +kernel
theorem dc9_weigh_138 : decode prog_11_method_4_code 138 = .ok (.iastore, 1) := by decide +kernel
theorem dc9_weigh_139 : decode prog_11_method_4_code 139 = .ok (.return_, 1) := by decide +kernel
theorem dc2_withInterest_0 : decode prog_4_method_6_code 0 = .ok (.sipush 999, 3) := by decide +kernel
theorem dc2_withInterest_3 : decode prog_4_method_6_code 3 = .ok (.iload_n 1, 1) := by decide +kernel
theorem dc2_withInterest_4 : decode prog_4_method_6_code 4 = .ok (.iload_n 1, 1) := by decide +kernel
theorem dc2_withInterest_5 : decode prog_4_method_6_code 5 = .ok (.aload_n 0, 1) := by decide +kernel
theorem dc2_withInterest_6 : decode prog_4_method_6_code 6 = .ok (.getfield 37, 3) := by decide +kernel
theorem dc2_withInterest_9 : decode prog_4_method_6_code 9 = .ok (.imul, 1) := by decide +kernel
theorem dc2_withInterest_10 : decode prog_4_method_6_code 10 = .ok (.bipush 10, 2) := by decide +kernel
theorem dc2_withInterest_12 : decode prog_4_method_6_code 12 = .ok (.idiv, 1) := by decide +kernel
theorem dc2_withInterest_13 : decode prog_4_method_6_code 13 = .ok (.iadd, 1) := by decide +kernel
theorem dc2_withInterest_14 : decode prog_4_method_6_code 14 = .ok (.invokestatic 49, 3) := by decide +kernel
theorem dc2_withInterest_17 : decode prog_4_method_6_code 17 = .ok (.ireturn, 1) := by decide +kernel
theorem dc3_worth_0 : decode prog_5_method_2_code 0 = .ok (.iconst 0, 1) := by decide +kernel
theorem dc3_worth_1 : decode prog_5_method_2_code 1 = .ok (.istore_n 2, 1) := by decide +kernel
theorem dc3_worth_2 : decode prog_5_method_2_code 2 = .ok (.iconst 0, 1) := by decide +kernel
theorem dc3_worth_3 : decode prog_5_method_2_code 3 = .ok (.istore_n 3, 1) := by decide +kernel
theorem dc3_worth_4 : decode prog_5_method_2_code 4 = .ok (.iconst 0, 1) := by decide +kernel
theorem dc3_worth_5 : decode prog_5_method_2_code 5 = .ok (.istore 4, 2) := by decide +kernel
theorem dc3_worth_7 : decode prog_5_method_2_code 7 = .ok (.iload 4, 2) := by decide +kernel
theorem dc3_worth_9 : decode prog_5_method_2_code 9 = .ok (.aload_n 0, 1) := by decide +kernel
theorem dc3_worth_10 : decode prog_5_method_2_code 10 = .ok (.getfield 15, 3) := by decide +kernel
theorem dc3_worth_13 : decode prog_5_method_2_code 13 = .ok (.arraylength, 1) := by decide +kernel
theorem dc3_worth_14 : decode prog_5_method_2_code 14 = .ok (.if_icmp .ge 207, 3) := by decide +kernel
theorem dc3_worth_17 : decode prog_5_method_2_code 17 = .ok (.iload_n 2, 1) := by decide +kernel
theorem dc3_worth_18 : decode prog_5_method_2_code 18 = .ok (.bipush 32, 2) := by decide +kernel
theorem dc3_worth_20 : decode prog_5_method_2_code 20 = .ok (.if_icmp .ge 201, 3) := by decide +kernel
theorem dc3_worth_23 : decode prog_5_method_2_code 23 = .ok (.aload_n 0, 1) := by decide +kernel
theorem dc3_worth_24 : decode prog_5_method_2_code 24 = .ok (.getfield 15, 3) := by decide +kernel
theorem dc3_worth_27 : decode prog_5_method_2_code 27 = .ok (.iload 4, 2) := by decide +kernel
theorem dc3_worth_29 : decode prog_5_method_2_code 29 = .ok (.iaload, 1) := by decide +kernel
theorem dc3_worth_30 : decode prog_5_method_2_code 30 = .ok (.istore 5, 2) := by decide +kernel
theorem dc3_worth_32 : decode prog_5_method_2_code 32 = .ok (.iload_n 3, 1) := by decide +kernel
theorem dc3_worth_33 : decode prog_5_method_2_code 33 = .ok (.ifCond .eq 19, 3) := by decide +kernel
theorem dc3_worth_36 : decode prog_5_method_2_code 36 = .ok (.iload 5, 2) := by decide +kernel
theorem dc3_worth_38 : decode prog_5_method_2_code 38 = .ok (.bipush (-59), 2) := by decide +kernel
theorem dc3_worth_40 : decode prog_5_method_2_code 40 = .ok (.if_icmp .eq 7, 3) := by decide +kernel
theorem dc3_worth_43 : decode prog_5_method_2_code 43 = .ok (.iconst 1, 1) := by decide +kernel
theorem dc3_worth_44 : decode prog_5_method_2_code 44 = .ok (.goto 4, 3) := by decide +kernel
theorem dc3_worth_47 : decode prog_5_method_2_code 47 = .ok (.iconst 0, 1) := by decide +kernel
theorem dc3_worth_48 : decode prog_5_method_2_code 48 = .ok (.istore_n 3, 1) := by decide +kernel
theorem dc3_worth_49 : decode prog_5_method_2_code 49 = .ok (.goto 166, 3) := by decide +kernel
theorem dc3_worth_52 : decode prog_5_method_2_code 52 = .ok (.iload 5, 2) := by decide +kernel
theorem dc3_worth_54 : decode prog_5_method_2_code 54 = .ok (.ifCond .lt 17, 3) := by decide +kernel
theorem dc3_worth_57 : decode prog_5_method_2_code 57 = .ok (.aload_n 0, 1) := by decide +kernel
theorem dc3_worth_58 : decode prog_5_method_2_code 58 = .ok (.getfield 11, 3) := by decide +kernel
theorem dc3_worth_61 : decode prog_5_method_2_code 61 = .ok (.iload_n 2, 1) := by decide +kernel
theorem dc3_worth_62 : decode prog_5_method_2_code 62 = .ok (.iinc 2 1, 3) := by decide +kernel
theorem dc3_worth_65 : decode prog_5_method_2_code 65 = .ok (.iload 5, 2) := by decide +kernel
theorem dc3_worth_67 : decode prog_5_method_2_code 67 = .ok (.iastore, 1) := by decide +kernel
theorem dc3_worth_68 : decode prog_5_method_2_code 68 = .ok (.goto 147, 3) := by decide +kernel
theorem dc3_worth_71 : decode prog_5_method_2_code 71 = .ok (.iload 5, 2) := by decide +kernel
theorem dc3_worth_73 : decode prog_5_method_2_code 73 = .ok (.ineg, 1) := by decide +kernel
theorem dc3_worth_74 : decode prog_5_method_2_code 74 = .ok (.aload_n 1, 1) := by decide +kernel
theorem dc3_worth_75 : decode prog_5_method_2_code 75 = .ok (.arraylength, 1) := by decide +kernel
theorem dc3_worth_76 : decode prog_5_method_2_code 76 = .ok (.if_icmp .gt 22, 3) := by decide +kernel
theorem dc3_worth_79 : decode prog_5_method_2_code 79 = .ok (.aload_n 0, 1) := by decide +kernel
theorem dc3_worth_80 : decode prog_5_method_2_code 80 = .ok (.getfield 11, 3) := by decide +kernel
theorem dc3_worth_83 : decode prog_5_method_2_code 83 = .ok (.iload_n 2, 1) := by decide +kernel
theorem dc3_worth_84 : decode prog_5_method_2_code 84 = .ok (.iinc 2 1, 3) := by decide +kernel
theorem dc3_worth_87 : decode prog_5_method_2_code 87 = .ok (.aload_n 1, 1) := by decide +kernel
theorem dc3_worth_88 : decode prog_5_method_2_code 88 = .ok (.iload 5, 2) := by decide +kernel
theorem dc3_worth_90 : decode prog_5_method_2_code 90 = .ok (.ineg, 1) := by decide +kernel
theorem dc3_worth_91 : decode prog_5_method_2_code 91 = .ok (.iconst 1, 1) := by decide +kernel
theorem dc3_worth_92 : decode prog_5_method_2_code 92 = .ok (.isub, 1) := by decide +kernel
theorem dc3_worth_93 : decode prog_5_method_2_code 93 = .ok (.iaload, 1) := by decide +kernel
theorem dc3_worth_94 : decode prog_5_method_2_code 94 = .ok (.iastore, 1) := by decide +kernel
theorem dc3_worth_95 : decode prog_5_method_2_code 95 = .ok (.goto 120, 3) := by decide +kernel
theorem dc3_worth_98 : decode prog_5_method_2_code 98 = .ok (.iload_n 2, 1) := by decide +kernel
theorem dc3_worth_99 : decode prog_5_method_2_code 99 = .ok (.iconst 1, 1) := by decide +kernel
theorem dc3_worth_100 : decode prog_5_method_2_code 100 = .ok (.if_icmp .ge 5, 3) := by decide +kernel
theorem dc3_worth_103 : decode prog_5_method_2_code 103 = .ok (.iconst 0, 1) := by decide +kernel
theorem dc3_worth_104 : decode prog_5_method_2_code 104 = .ok (.ireturn, 1) := by decide +kernel
theorem dc3_worth_105 : decode prog_5_method_2_code 105 = .ok (.iload 5, 2) := by decide +kernel
theorem dc3_worth_107 : decode prog_5_method_2_code 107 = .ok (.bipush (-59), 2) := by decide +kernel
theorem dc3_worth_109 : decode prog_5_method_2_code 109 = .ok (.if_icmp .ne 12, 3) := by decide +kernel
theorem dc3_worth_112 : decode prog_5_method_2_code 112 = .ok (.aload_n 0, 1) := by decide +kernel
theorem dc3_worth_113 : decode prog_5_method_2_code 113 = .ok (.getfield 11, 3) := by decide +kernel
theorem dc3_worth_116 : decode prog_5_method_2_code 116 = .ok (.iload_n 2, 1) := by decide +kernel
theorem dc3_worth_117 : decode prog_5_method_2_code 117 = .ok (.iconst 1, 1) := by decide +kernel
theorem dc3_worth_118 : decode prog_5_method_2_code 118 = .ok (.isub, 1) := by decide +kernel
theorem dc3_worth_119 : decode prog_5_method_2_code 119 = .ok (.iaload, 1) := by decide +kernel
theorem dc3_worth_120 : decode prog_5_method_2_code 120 = .ok (.ireturn, 1) := by decide +kernel
theorem dc3_worth_121 : decode prog_5_method_2_code 121 = .ok (.iload 5, 2) := by decide +kernel
theorem dc3_worth_123 : decode prog_5_method_2_code 123 = .ok (.bipush (-63), 2) := by decide +kernel
theorem dc3_worth_125 : decode prog_5_method_2_code 125 = .ok (.if_icmp .ne 24, 3) := by decide +kernel
theorem dc3_worth_128 : decode prog_5_method_2_code 128 = .ok (.aload_n 0, 1) := by decide +kernel
theorem dc3_worth_129 : decode prog_5_method_2_code 129 = .ok (.getfield 11, 3) := by decide +kernel
theorem dc3_worth_132 : decode prog_5_method_2_code 132 = .ok (.iinc 2 (-1), 3) := by decide +kernel
theorem dc3_worth_135 : decode prog_5_method_2_code 135 = .ok (.iload_n 2, 1) := by decide +kernel
theorem dc3_worth_136 : decode prog_5_method_2_code 136 = .ok (.iaload, 1) := by decide +kernel
theorem dc3_worth_137 : decode prog_5_method_2_code 137 = .ok (.ifCond .ne 7, 3) := by decide +kernel
theorem dc3_worth_140 : decode prog_5_method_2_code 140 = .ok (.iconst 1, 1) := by decide +kernel
theorem dc3_worth_141 : decode prog_5_method_2_code 141 = .ok (.goto 4, 3) := by decide +kernel
theorem dc3_worth_144 : decode prog_5_method_2_code 144 = .ok (.iconst 0, 1) := by decide +kernel
theorem dc3_worth_145 : decode prog_5_method_2_code 145 = .ok (.istore_n 3, 1) := by decide +kernel
theorem dc3_worth_146 : decode prog_5_method_2_code 146 = .ok (.goto 69, 3) := by decide +kernel
theorem dc3_worth_149 : decode prog_5_method_2_code 149 = .ok (.iload 5, 2) := by decide +kernel
theorem dc3_worth_151 : decode prog_5_method_2_code 151 = .ok (.bipush (-33), 2) := by decide +kernel
theorem dc3_worth_153 : decode prog_5_method_2_code 153 = .ok (.if_icmp .ne 24, 3) := by decide +kernel
theorem dc3_worth_156 : decode prog_5_method_2_code 156 = .ok (.aload_n 0, 1) := by decide +kernel
theorem dc3_worth_157 : decode prog_5_method_2_code 157 = .ok (.getfield 11, 3) := by decide +kernel
theorem dc3_worth_160 : decode prog_5_method_2_code 160 = .ok (.iload_n 2, 1) := by decide +kernel
theorem dc3_worth_161 : decode prog_5_method_2_code 161 = .ok (.iconst 1, 1) := by decide +kernel
theorem dc3_worth_162 : decode prog_5_method_2_code 162 = .ok (.isub, 1) := by decide +kernel
theorem dc3_worth_163 : decode prog_5_method_2_code 163 = .ok (.iconst 1, 1) := by decide +kernel
theorem dc3_worth_164 : decode prog_5_method_2_code 164 = .ok (.aload_n 0, 1) := by decide +kernel
theorem dc3_worth_165 : decode prog_5_method_2_code 165 = .ok (.getfield 11, 3) := by decide +kernel
theorem dc3_worth_168 : decode prog_5_method_2_code 168 = .ok (.iload_n 2, 1) := by decide +kernel
theorem dc3_worth_169 : decode prog_5_method_2_code 169 = .ok (.iconst 1, 1) := by decide +kernel
theorem dc3_worth_170 : decode prog_5_method_2_code 170 = .ok (.isub, 1) := by decide +kernel
theorem dc3_worth_171 : decode prog_5_method_2_code 171 = .ok (.iaload, 1) := by decide +kernel
theorem dc3_worth_172 : decode prog_5_method_2_code 172 = .ok (.isub, 1) := by decide +kernel
theorem dc3_worth_173 : decode prog_5_method_2_code 173 = .ok (.iastore, 1) := by decide +kernel
theorem dc3_worth_174 : decode prog_5_method_2_code 174 = .ok (.goto 41, 3) := by decide +kernel
theorem dc3_worth_177 : decode prog_5_method_2_code 177 = .ok (.iload_n 2, 1) := by decide +kernel
theorem dc3_worth_178 : decode prog_5_method_2_code 178 = .ok (.iconst 2, 1) := by decide +kernel
theorem dc3_worth_179 : decode prog_5_method_2_code 179 = .ok (.if_icmp .ge 5, 3) := by decide +kernel
theorem dc3_worth_182 : decode prog_5_method_2_code 182 = .ok (.iconst 0, 1) := by decide +kernel
theorem dc3_worth_183 : decode prog_5_method_2_code 183 = .ok (.ireturn, 1) := by decide +kernel
theorem dc3_worth_184 : decode prog_5_method_2_code 184 = .ok (.iinc 2 (-1), 3) := by decide +kernel
theorem dc3_worth_187 : decode prog_5_method_2_code 187 = .ok (.aload_n 0, 1) := by decide +kernel
theorem dc3_worth_188 : decode prog_5_method_2_code 188 = .ok (.getfield 11, 3) := by decide +kernel
theorem dc3_worth_191 : decode prog_5_method_2_code 191 = .ok (.iload_n 2, 1) := by decide +kernel
theorem dc3_worth_192 : decode prog_5_method_2_code 192 = .ok (.iconst 1, 1) := by decide +kernel
theorem dc3_worth_193 : decode prog_5_method_2_code 193 = .ok (.isub, 1) := by decide +kernel
theorem dc3_worth_194 : decode prog_5_method_2_code 194 = .ok (.aload_n 0, 1) := by decide +kernel
theorem dc3_worth_195 : decode prog_5_method_2_code 195 = .ok (.getfield 11, 3) := by decide +kernel
theorem dc3_worth_198 : decode prog_5_method_2_code 198 = .ok (.iload_n 2, 1) := by decide +kernel
theorem dc3_worth_199 : decode prog_5_method_2_code 199 = .ok (.iconst 1, 1) := by decide +kernel
theorem dc3_worth_200 : decode prog_5_method_2_code 200 = .ok (.isub, 1) := by decide +kernel
theorem dc3_worth_201 : decode prog_5_method_2_code 201 = .ok (.iaload, 1) := by decide +kernel
theorem dc3_worth_202 : decode prog_5_method_2_code 202 = .ok (.iload 5, 2) := by decide +kernel
theorem dc3_worth_204 : decode prog_5_method_2_code 204 = .ok (.ineg, 1) := by decide +kernel
theorem dc3_worth_205 : decode prog_5_method_2_code 205 = .ok (.aload_n 0, 1) := by decide +kernel
theorem dc3_worth_206 : decode prog_5_method_2_code 206 = .ok (.getfield 11, 3) := by decide +kernel
theorem dc3_worth_209 : decode prog_5_method_2_code 209 = .ok (.iload_n 2, 1) := by decide +kernel
theorem dc3_worth_210 : decode prog_5_method_2_code 210 = .ok (.iaload, 1) := by decide +kernel
theorem dc3_worth_211 : decode prog_5_method_2_code 211 = .ok (.invokestatic 18, 3) := by decide +kernel
theorem dc3_worth_214 : decode prog_5_method_2_code 214 = .ok (.iastore, 1) := by decide +kernel
theorem dc3_worth_215 : decode prog_5_method_2_code 215 = .ok (.iinc 4 1, 3) := by decide +kernel
theorem dc3_worth_218 : decode prog_5_method_2_code 218 = .ok (.goto (-211), 3) := by decide +kernel
theorem dc3_worth_221 : decode prog_5_method_2_code 221 = .ok (.iconst 0, 1) := by decide +kernel
theorem dc3_worth_222 : decode prog_5_method_2_code 222 = .ok (.ireturn, 1) := by decide +kernel
theorem dc3_joined_0 : decode prog_5_method_3_code 0 = .ok (.iload_n 1, 1) := by decide +kernel
theorem dc3_joined_1 : decode prog_5_method_3_code 1 = .ok (.tableswitch 208 38 62 #[200, 208, 208, 208, 133, 115, 208, 124, 208, 142, 208, 208, 208, 208, 208, 208, 208, 208, 208, 208, 208, 208, 172, 158, 186], 115) := by decide +kernel
theorem dc3_joined_116 : decode prog_5_method_3_code 116 = .ok (.iload_n 0, 1) := by decide +kernel
theorem dc3_joined_117 : decode prog_5_method_3_code 117 = .ok (.i2l, 1) := by decide +kernel
theorem dc3_joined_118 : decode prog_5_method_3_code 118 = .ok (.iload_n 2, 1) := by decide +kernel
theorem dc3_joined_119 : decode prog_5_method_3_code 119 = .ok (.i2l, 1) := by decide +kernel
theorem dc3_joined_120 : decode prog_5_method_3_code 120 = .ok (.ladd, 1) := by decide +kernel
theorem dc3_joined_121 : decode prog_5_method_3_code 121 = .ok (.lstore_n 3, 1) := by decide +kernel
theorem dc3_joined_122 : decode prog_5_method_3_code 122 = .ok (.goto 92, 3) := by decide +kernel
theorem dc3_joined_125 : decode prog_5_method_3_code 125 = .ok (.iload_n 0, 1) := by decide +kernel
theorem dc3_joined_126 : decode prog_5_method_3_code 126 = .ok (.i2l, 1) := by decide +kernel
theorem dc3_joined_127 : decode prog_5_method_3_code 127 = .ok (.iload_n 2, 1) := by decide +kernel
theorem dc3_joined_128 : decode prog_5_method_3_code 128 = .ok (.i2l, 1) := by decide +kernel
theorem dc3_joined_129 : decode prog_5_method_3_code 129 = .ok (.lsub, 1) := by decide +kernel
theorem dc3_joined_130 : decode prog_5_method_3_code 130 = .ok (.lstore_n 3, 1) := by decide +kernel
theorem dc3_joined_131 : decode prog_5_method_3_code 131 = .ok (.goto 83, 3) := by decide +kernel
theorem dc3_joined_134 : decode prog_5_method_3_code 134 = .ok (.iload_n 0, 1) := by decide +kernel
theorem dc3_joined_135 : decode prog_5_method_3_code 135 = .ok (.i2l, 1) := by decide +kernel
theorem dc3_joined_136 : decode prog_5_method_3_code 136 = .ok (.iload_n 2, 1) := by decide +kernel
theorem dc3_joined_137 : decode prog_5_method_3_code 137 = .ok (.i2l, 1) := by decide +kernel
theorem dc3_joined_138 : decode prog_5_method_3_code 138 = .ok (.lmul, 1) := by decide +kernel
theorem dc3_joined_139 : decode prog_5_method_3_code 139 = .ok (.lstore_n 3, 1) := by decide +kernel
theorem dc3_joined_140 : decode prog_5_method_3_code 140 = .ok (.goto 74, 3) := by decide +kernel
theorem dc3_joined_143 : decode prog_5_method_3_code 143 = .ok (.iload_n 2, 1) := by decide +kernel
theorem dc3_joined_144 : decode prog_5_method_3_code 144 = .ok (.ifCond .ne 7, 3) := by decide +kernel
theorem dc3_joined_147 : decode prog_5_method_3_code 147 = .ok (.lconst 0, 1) := by decide +kernel
theorem dc3_joined_148 : decode prog_5_method_3_code 148 = .ok (.goto 7, 3) := by decide +kernel
theorem dc3_joined_151 : decode prog_5_method_3_code 151 = .ok (.iload_n 0, 1) := by decide +kernel
theorem dc3_joined_152 : decode prog_5_method_3_code 152 = .ok (.iload_n 2, 1) := by decide +kernel
theorem dc3_joined_153 : decode prog_5_method_3_code 153 = .ok (.idiv, 1) := by decide +kernel
theorem dc3_joined_154 : decode prog_5_method_3_code 154 = .ok (.i2l, 1) := by decide +kernel
theorem dc3_joined_155 : decode prog_5_method_3_code 155 = .ok (.lstore_n 3, 1) := by decide +kernel
theorem dc3_joined_156 : decode prog_5_method_3_code 156 = .ok (.goto 58, 3) := by decide +kernel
theorem dc3_joined_159 : decode prog_5_method_3_code 159 = .ok (.iload_n 0, 1) := by decide +kernel
theorem dc3_joined_160 : decode prog_5_method_3_code 160 = .ok (.iload_n 2, 1) := by decide +kernel
theorem dc3_joined_161 : decode prog_5_method_3_code 161 = .ok (.if_icmp .ne 7, 3) := by decide +kernel
theorem dc3_joined_164 : decode prog_5_method_3_code 164 = .ok (.lconst 1, 1) := by decide +kernel
theorem dc3_joined_165 : decode prog_5_method_3_code 165 = .ok (.goto 4, 3) := by decide +kernel
theorem dc3_joined_168 : decode prog_5_method_3_code 168 = .ok (.lconst 0, 1) := by decide +kernel
theorem dc3_joined_169 : decode prog_5_method_3_code 169 = .ok (.lstore_n 3, 1) := by decide +kernel
theorem dc3_joined_170 : decode prog_5_method_3_code 170 = .ok (.goto 44, 3) := by decide +kernel
theorem dc3_joined_173 : decode prog_5_method_3_code 173 = .ok (.iload_n 0, 1) := by decide +kernel
theorem dc3_joined_174 : decode prog_5_method_3_code 174 = .ok (.iload_n 2, 1) := by decide +kernel
theorem dc3_joined_175 : decode prog_5_method_3_code 175 = .ok (.if_icmp .ge 7, 3) := by decide +kernel
theorem dc3_joined_178 : decode prog_5_method_3_code 178 = .ok (.lconst 1, 1) := by decide +kernel
theorem dc3_joined_179 : decode prog_5_method_3_code 179 = .ok (.goto 4, 3) := by decide +kernel
theorem dc3_joined_182 : decode prog_5_method_3_code 182 = .ok (.lconst 0, 1) := by decide +kernel
theorem dc3_joined_183 : decode prog_5_method_3_code 183 = .ok (.lstore_n 3, 1) := by decide +kernel
theorem dc3_joined_184 : decode prog_5_method_3_code 184 = .ok (.goto 30, 3) := by decide +kernel
theorem dc3_joined_187 : decode prog_5_method_3_code 187 = .ok (.iload_n 0, 1) := by decide +kernel
theorem dc3_joined_188 : decode prog_5_method_3_code 188 = .ok (.iload_n 2, 1) := by decide +kernel
theorem dc3_joined_189 : decode prog_5_method_3_code 189 = .ok (.if_icmp .le 7, 3) := by decide +kernel
theorem dc3_joined_192 : decode prog_5_method_3_code 192 = .ok (.lconst 1, 1) := by decide +kernel
theorem dc3_joined_193 : decode prog_5_method_3_code 193 = .ok (.goto 4, 3) := by decide +kernel
theorem dc3_joined_196 : decode prog_5_method_3_code 196 = .ok (.lconst 0, 1) := by decide +kernel
theorem dc3_joined_197 : decode prog_5_method_3_code 197 = .ok (.lstore_n 3, 1) := by decide +kernel
theorem dc3_joined_198 : decode prog_5_method_3_code 198 = .ok (.goto 16, 3) := by decide +kernel
theorem dc3_joined_201 : decode prog_5_method_3_code 201 = .ok (.iload_n 0, 1) := by decide +kernel
theorem dc3_joined_202 : decode prog_5_method_3_code 202 = .ok (.iload_n 2, 1) := by decide +kernel
theorem dc3_joined_203 : decode prog_5_method_3_code 203 = .ok (.iand, 1) := by decide +kernel
theorem dc3_joined_204 : decode prog_5_method_3_code 204 = .ok (.i2l, 1) := by decide +kernel
theorem dc3_joined_205 : decode prog_5_method_3_code 205 = .ok (.lstore_n 3, 1) := by decide +kernel
theorem dc3_joined_206 : decode prog_5_method_3_code 206 = .ok (.goto 8, 3) := by decide +kernel
theorem dc3_joined_209 : decode prog_5_method_3_code 209 = .ok (.iload_n 0, 1) := by decide +kernel
theorem dc3_joined_210 : decode prog_5_method_3_code 210 = .ok (.iload_n 2, 1) := by decide +kernel
theorem dc3_joined_211 : decode prog_5_method_3_code 211 = .ok (.ior, 1) := by decide +kernel
theorem dc3_joined_212 : decode prog_5_method_3_code 212 = .ok (.i2l, 1) := by decide +kernel
theorem dc3_joined_213 : decode prog_5_method_3_code 213 = .ok (.lstore_n 3, 1) := by decide +kernel
theorem dc3_joined_214 : decode prog_5_method_3_code 214 = .ok (.lload_n 3, 1) := by decide +kernel
theorem dc3_joined_215 : decode prog_5_method_3_code 215 = .ok (.ldc2_w 22, 3) := by decide +kernel
theorem dc3_joined_218 : decode prog_5_method_3_code 218 = .ok (.lcmp, 1) := by decide +kernel
theorem dc3_joined_219 : decode prog_5_method_3_code 219 = .ok (.ifCond .le 8, 3) := by decide +kernel
theorem dc3_joined_222 : decode prog_5_method_3_code 222 = .ok (.ldc 24, 2) := by decide +kernel
theorem dc3_joined_224 : decode prog_5_method_3_code 224 = .ok (.goto 18, 3) := by decide +kernel
theorem dc3_joined_227 : decode prog_5_method_3_code 227 = .ok (.lload_n 3, 1) := by decide +kernel
theorem dc3_joined_228 : decode prog_5_method_3_code 228 = .ok (.ldc2_w 25, 3) := by decide +kernel
theorem dc3_joined_231 : decode prog_5_method_3_code 231 = .ok (.lcmp, 1) := by decide +kernel
theorem dc3_joined_232 : decode prog_5_method_3_code 232 = .ok (.ifCond .ge 8, 3) := by decide +kernel
theorem dc3_joined_235 : decode prog_5_method_3_code 235 = .ok (.ldc 27, 2) := by decide +kernel
theorem dc3_joined_237 : decode prog_5_method_3_code 237 = .ok (.goto 5, 3) := by decide +kernel
theorem dc3_joined_240 : decode prog_5_method_3_code 240 = .ok (.lload_n 3, 1) := by decide +kernel
theorem dc3_joined_241 : decode prog_5_method_3_code 241 = .ok (.l2i, 1) := by decide +kernel
theorem dc3_joined_242 : decode prog_5_method_3_code 242 = .ok (.ireturn, 1) := by decide +kernel
theorem dc9_fallOn_0 : decode prog_11_method_7_code 0 = .ok (.iload_n 2, 1) := by decide +kernel
theorem dc9_fallOn_1 : decode prog_11_method_7_code 1 = .ok (.istore_n 3, 1) := by decide +kernel
theorem dc9_fallOn_2 : decode prog_11_method_7_code 2 = .ok (.iconst 0, 1) := by decide +kernel
theorem dc9_fallOn_3 : decode prog_11_method_7_code 3 = .ok (.istore 4, 2) := by decide +kernel
theorem dc9_fallOn_5 : decode prog_11_method_7_code 5 = .ok (.iload 4, 2) := by decide +kernel
theorem dc9_fallOn_7 : decode prog_11_method_7_code 7 = .ok (.aload_n 0, 1) := by decide +kernel
theorem dc9_fallOn_8 : decode prog_11_method_7_code 8 = .ok (.getfield 38, 3) := by decide +kernel
theorem dc9_fallOn_11 : decode prog_11_method_7_code 11 = .ok (.if_icmp .ge 29, 3) := by decide +kernel
theorem dc9_fallOn_14 : decode prog_11_method_7_code 14 = .ok (.aload_n 0, 1) := by decide +kernel
theorem dc9_fallOn_15 : decode prog_11_method_7_code 15 = .ok (.iload 4, 2) := by decide +kernel
theorem dc9_fallOn_17 : decode prog_11_method_7_code 17 = .ok (.iload_n 1, 1) := by decide +kernel
theorem dc9_fallOn_18 : decode prog_11_method_7_code 18 = .ok (.invokevirtual 94, 3) := by decide +kernel
theorem dc9_fallOn_21 : decode prog_11_method_7_code 21 = .ok (.ifCond .eq 13, 3) := by decide +kernel
theorem dc9_fallOn_24 : decode prog_11_method_7_code 24 = .ok (.iload_n 3, 1) := by decide +kernel
theorem dc9_fallOn_25 : decode prog_11_method_7_code 25 = .ok (.aload_n 0, 1) := by decide +kernel
theorem dc9_fallOn_26 : decode prog_11_method_7_code 26 = .ok (.getfield 15, 3) := by decide +kernel
theorem dc9_fallOn_29 : decode prog_11_method_7_code 29 = .ok (.iload 4, 2) := by decide +kernel
theorem dc9_fallOn_31 : decode prog_11_method_7_code 31 = .ok (.iaload, 1) := by decide +kernel
theorem dc9_fallOn_32 : decode prog_11_method_7_code 32 = .ok (.isub, 1) := by decide +kernel
theorem dc9_fallOn_33 : decode prog_11_method_7_code 33 = .ok (.istore_n 3, 1) := by decide +kernel
theorem dc9_fallOn_34 : decode prog_11_method_7_code 34 = .ok (.iinc 4 1, 3) := by decide +kernel
theorem dc9_fallOn_37 : decode prog_11_method_7_code 37 = .ok (.goto (-32), 3) := by decide +kernel
theorem dc9_fallOn_40 : decode prog_11_method_7_code 40 = .ok (.iload_n 3, 1) := by decide +kernel
theorem dc9_fallOn_41 : decode prog_11_method_7_code 41 = .ok (.ifCond .ge 7, 3) := by decide +kernel
theorem dc9_fallOn_44 : decode prog_11_method_7_code 44 = .ok (.iconst 0, 1) := by decide +kernel
theorem dc9_fallOn_45 : decode prog_11_method_7_code 45 = .ok (.goto 13, 3) := by decide +kernel
theorem dc9_fallOn_48 : decode prog_11_method_7_code 48 = .ok (.iload_n 3, 1) := by decide +kernel
theorem dc9_fallOn_49 : decode prog_11_method_7_code 49 = .ok (.aload_n 0, 1) := by decide +kernel
theorem dc9_fallOn_50 : decode prog_11_method_7_code 50 = .ok (.getfield 15, 3) := by decide +kernel
theorem dc9_fallOn_53 : decode prog_11_method_7_code 53 = .ok (.iload_n 1, 1) := by decide +kernel
theorem dc9_fallOn_54 : decode prog_11_method_7_code 54 = .ok (.iaload, 1) := by decide +kernel
theorem dc9_fallOn_55 : decode prog_11_method_7_code 55 = .ok (.invokestatic 98, 3) := by decide +kernel
theorem dc9_fallOn_58 : decode prog_11_method_7_code 58 = .ok (.ireturn, 1) := by decide +kernel
theorem dc9_isBefore_0 : decode prog_11_method_5_code 0 = .ok (.aload_n 0, 1) := by decide +kernel
theorem dc9_isBefore_1 : decode prog_11_method_5_code 1 = .ok (.getfield 9, 3) := by decide +kernel
theorem dc9_isBefore_4 : decode prog_11_method_5_code 4 = .ok (.iload_n 1, 1) := by decide +kernel
theorem dc9_isBefore_5 : decode prog_11_method_5_code 5 = .ok (.iaload, 1) := by decide +kernel
theorem dc9_isBefore_6 : decode prog_11_method_5_code 6 = .ok (.aload_n 0, 1) := by decide +kernel
theorem dc9_isBefore_7 : decode prog_11_method_5_code 7 = .ok (.getfield 9, 3) := by decide +kernel
theorem dc9_isBefore_10 : decode prog_11_method_5_code 10 = .ok (.iload_n 2, 1) := by decide +kernel
theorem dc9_isBefore_11 : decode prog_11_method_5_code 11 = .ok (.iaload, 1) := by decide +kernel
theorem dc9_isBefore_12 : decode prog_11_method_5_code 12 = .ok (.if_icmp .gt 23, 3) := by decide +kernel
theorem dc9_isBefore_15 : decode prog_11_method_5_code 15 = .ok (.aload_n 0, 1) := by decide +kernel
theorem dc9_isBefore_16 : decode prog_11_method_5_code 16 = .ok (.getfield 9, 3) := by decide +kernel
theorem dc9_isBefore_19 : decode prog_11_method_5_code 19 = .ok (.iload_n 1, 1) := by decide +kernel
theorem dc9_isBefore_20 : decode prog_11_method_5_code 20 = .ok (.iaload, 1) := by decide +kernel
theorem dc9_isBefore_21 : decode prog_11_method_5_code 21 = .ok (.aload_n 0, 1) := by decide +kernel
theorem dc9_isBefore_22 : decode prog_11_method_5_code 22 = .ok (.getfield 9, 3) := by decide +kernel
theorem dc9_isBefore_25 : decode prog_11_method_5_code 25 = .ok (.iload_n 2, 1) := by decide +kernel
theorem dc9_isBefore_26 : decode prog_11_method_5_code 26 = .ok (.iaload, 1) := by decide +kernel
theorem dc9_isBefore_27 : decode prog_11_method_5_code 27 = .ok (.if_icmp .ne 12, 3) := by decide +kernel
theorem dc9_isBefore_30 : decode prog_11_method_5_code 30 = .ok (.iload_n 1, 1) := by decide +kernel
theorem dc9_isBefore_31 : decode prog_11_method_5_code 31 = .ok (.iload_n 2, 1) := by decide +kernel
theorem dc9_isBefore_32 : decode prog_11_method_5_code 32 = .ok (.if_icmp .ge 7, 3) := by decide +kernel
theorem dc9_isBefore_35 : decode prog_11_method_5_code 35 = .ok (.iconst 1, 1) := by decide +kernel
theorem dc9_isBefore_36 : decode prog_11_method_5_code 36 = .ok (.goto 4, 3) := by decide +kernel
theorem dc9_isBefore_39 : decode prog_11_method_5_code 39 = .ok (.iconst 0, 1) := by decide +kernel
theorem dc9_isBefore_40 : decode prog_11_method_5_code 40 = .ok (.ireturn, 1) := by decide +kernel
theorem dc9_usedUp_0 : decode prog_11_method_10_code 0 = .ok (.aload_n 1, 1) := by decide +kernel
theorem dc9_usedUp_1 : decode prog_11_method_10_code 1 = .ok (.getfield 75, 3) := by decide +kernel
theorem dc9_usedUp_4 : decode prog_11_method_10_code 4 = .ok (.iload_n 2, 1) := by decide +kernel
theorem dc9_usedUp_5 : decode prog_11_method_10_code 5 = .ok (.iaload, 1) := by decide +kernel
theorem dc9_usedUp_6 : decode prog_11_method_10_code 6 = .ok (.aload_n 0, 1) := by decide +kernel
theorem dc9_usedUp_7 : decode prog_11_method_10_code 7 = .ok (.aload_n 1, 1) := by decide +kernel
theorem dc9_usedUp_8 : decode prog_11_method_10_code 8 = .ok (.iload_n 2, 1) := by decide +kernel
theorem dc9_usedUp_9 : decode prog_11_method_10_code 9 = .ok (.invokevirtual 103, 3) := by decide +kernel
theorem dc9_usedUp_12 : decode prog_11_method_10_code 12 = .ok (.invokestatic 98, 3) := by decide +kernel
theorem dc9_usedUp_15 : decode prog_11_method_10_code 15 = .ok (.ireturn, 1) := by decide +kernel
theorem dc9_wet_0 : decode prog_11_method_9_code 0 = .ok (.bipush 30, 2) := by decide +kernel
theorem dc9_wet_2 : decode prog_11_method_9_code 2 = .ok (.aload_n 1, 1) := by decide +kernel
theorem dc9_wet_3 : decode prog_11_method_9_code 3 = .ok (.getfield 78, 3) := by decide +kernel
theorem dc9_wet_6 : decode prog_11_method_9_code 6 = .ok (.iload_n 2, 1) := by decide +kernel
theorem dc9_wet_7 : decode prog_11_method_9_code 7 = .ok (.iaload, 1) := by decide +kernel
theorem dc9_wet_8 : decode prog_11_method_9_code 8 = .ok (.aload_n 0, 1) := by decide +kernel
theorem dc9_wet_9 : decode prog_11_method_9_code 9 = .ok (.getfield 18, 3) := by decide +kernel
theorem dc9_wet_12 : decode prog_11_method_9_code 12 = .ok (.iload_n 2, 1) := by decide +kernel
theorem dc9_wet_13 : decode prog_11_method_9_code 13 = .ok (.iaload, 1) := by decide +kernel
theorem dc9_wet_14 : decode prog_11_method_9_code 14 = .ok (.iadd, 1) := by decide +kernel
theorem dc9_wet_15 : decode prog_11_method_9_code 15 = .ok (.invokestatic 98, 3) := by decide +kernel
theorem dc9_wet_18 : decode prog_11_method_9_code 18 = .ok (.ireturn, 1) := by decide +kernel
theorem dc0_tell_0 : decode prog_2_method_3_code 0 = .ok (.iload_n 1, 1) := by decide +kernel
theorem dc0_tell_1 : decode prog_2_method_3_code 1 = .ok (.bipush 100, 2) := by decide +kernel
theorem dc0_tell_3 : decode prog_2_method_3_code 3 = .ok (.invokestatic 27, 3) := by decide +kernel
theorem dc0_tell_6 : decode prog_2_method_3_code 6 = .ok (.istore 5, 2) := by decide +kernel
theorem dc0_tell_8 : decode prog_2_method_3_code 8 = .ok (.aload_n 0, 1) := by decide +kernel
theorem dc0_tell_9 : decode prog_2_method_3_code 9 = .ok (.getfield 11, 3) := by decide +kernel
theorem dc0_tell_12 : decode prog_2_method_3_code 12 = .ok (.iload 5, 2) := by decide +kernel
theorem dc0_tell_14 : decode prog_2_method_3_code 14 = .ok (.iload_n 2, 1) := by decide +kernel
theorem dc0_tell_15 : decode prog_2_method_3_code 15 = .ok (.iastore, 1) := by decide +kernel
theorem dc0_tell_16 : decode prog_2_method_3_code 16 = .ok (.aload_n 0, 1) := by decide +kernel
theorem dc0_tell_17 : decode prog_2_method_3_code 17 = .ok (.getfield 15, 3) := by decide +kernel
theorem dc0_tell_20 : decode prog_2_method_3_code 20 = .ok (.iload 5, 2) := by decide +kernel
theorem dc0_tell_22 : decode prog_2_method_3_code 22 = .ok (.iload_n 3, 1) := by decide +kernel
theorem dc0_tell_23 : decode prog_2_method_3_code 23 = .ok (.iastore, 1) := by decide +kernel
theorem dc0_tell_24 : decode prog_2_method_3_code 24 = .ok (.aload_n 0, 1) := by decide +kernel
theorem dc0_tell_25 : decode prog_2_method_3_code 25 = .ok (.getfield 18, 3) := by decide +kernel
theorem dc0_tell_28 : decode prog_2_method_3_code 28 = .ok (.iload 5, 2) := by decide +kernel
theorem dc0_tell_30 : decode prog_2_method_3_code 30 = .ok (.iload 4, 2) := by decide +kernel
theorem dc0_tell_32 : decode prog_2_method_3_code 32 = .ok (.iastore, 1) := by decide +kernel
theorem dc0_tell_33 : decode prog_2_method_3_code 33 = .ok (.return_, 1) := by decide +kernel
theorem dc9_settle_0 : decode prog_11_method_11_code 0 = .ok (.iconst 0, 1) := by decide +kernel
theorem dc9_settle_1 : decode prog_11_method_11_code 1 = .ok (.istore_n 2, 1) := by decide +kernel
theorem dc9_settle_2 : decode prog_11_method_11_code 2 = .ok (.iload_n 2, 1) := by decide +kernel
theorem dc9_settle_3 : decode prog_11_method_11_code 3 = .ok (.aload_n 0, 1) := by decide +kernel
theorem dc9_settle_4 : decode prog_11_method_11_code 4 = .ok (.getfield 38, 3) := by decide +kernel
theorem dc9_settle_7 : decode prog_11_method_11_code 7 = .ok (.if_icmp .ge 114, 3) := by decide +kernel
theorem dc9_settle_10 : decode prog_11_method_11_code 10 = .ok (.aload_n 0, 1) := by decide +kernel
theorem dc9_settle_11 : decode prog_11_method_11_code 11 = .ok (.getfield 31, 3) := by decide +kernel
theorem dc9_settle_14 : decode prog_11_method_11_code 14 = .ok (.iload_n 2, 1) := by decide +kernel
theorem dc9_settle_15 : decode prog_11_method_11_code 15 = .ok (.ishr, 1) := by decide +kernel
theorem dc9_settle_16 : decode prog_11_method_11_code 16 = .ok (.iconst 1, 1) := by decide +kernel
theorem dc9_settle_17 : decode prog_11_method_11_code 17 = .ok (.iand, 1) := by decide +kernel
theorem dc9_settle_18 : decode prog_11_method_11_code 18 = .ok (.iconst 1, 1) := by decide +kernel
theorem dc9_settle_19 : decode prog_11_method_11_code 19 = .ok (.if_icmp .ne 7, 3) := by decide +kernel
theorem dc9_settle_22 : decode prog_11_method_11_code 22 = .ok (.iconst 1, 1) := by decide +kernel
theorem dc9_settle_23 : decode prog_11_method_11_code 23 = .ok (.goto 4, 3) := by decide +kernel
theorem dc9_settle_26 : decode prog_11_method_11_code 26 = .ok (.iconst 0, 1) := by decide +kernel
theorem dc9_settle_27 : decode prog_11_method_11_code 27 = .ok (.istore_n 3, 1) := by decide +kernel
theorem dc9_settle_28 : decode prog_11_method_11_code 28 = .ok (.iload_n 3, 1) := by decide +kernel
theorem dc9_settle_29 : decode prog_11_method_11_code 29 = .ok (.ifCond .eq 7, 3) := by decide +kernel
theorem dc9_settle_32 : decode prog_11_method_11_code 32 = .ok (.iconst 0, 1) := by decide +kernel
theorem dc9_settle_33 : decode prog_11_method_11_code 33 = .ok (.goto 9, 3) := by decide +kernel
theorem dc9_settle_36 : decode prog_11_method_11_code 36 = .ok (.aload_n 0, 1) := by decide +kernel
theorem dc9_settle_37 : decode prog_11_method_11_code 37 = .ok (.aload_n 1, 1) := by decide +kernel
theorem dc9_settle_38 : decode prog_11_method_11_code 38 = .ok (.iload_n 2, 1) := by decide +kernel
theorem dc9_settle_39 : decode prog_11_method_11_code 39 = .ok (.invokevirtual 53, 3) := by decide +kernel
theorem dc9_settle_42 : decode prog_11_method_11_code 42 = .ok (.istore 4, 2) := by decide +kernel
theorem dc9_settle_44 : decode prog_11_method_11_code 44 = .ok (.aload_n 1, 1) := by decide +kernel
theorem dc9_settle_45 : decode prog_11_method_11_code 45 = .ok (.getfield 78, 3) := by decide +kernel
theorem dc9_settle_48 : decode prog_11_method_11_code 48 = .ok (.iload_n 2, 1) := by decide +kernel
theorem dc9_settle_49 : decode prog_11_method_11_code 49 = .ok (.aload_n 0, 1) := by decide +kernel
theorem dc9_settle_50 : decode prog_11_method_11_code 50 = .ok (.aload_n 1, 1) := by decide +kernel
theorem dc9_settle_51 : decode prog_11_method_11_code 51 = .ok (.iload_n 2, 1) := by decide +kernel
theorem dc9_settle_52 : decode prog_11_method_11_code 52 = .ok (.invokevirtual 103, 3) := by decide +kernel
theorem dc9_settle_55 : decode prog_11_method_11_code 55 = .ok (.iload 4, 2) := by decide +kernel
theorem dc9_settle_57 : decode prog_11_method_11_code 57 = .ok (.isub, 1) := by decide +kernel
theorem dc9_settle_58 : decode prog_11_method_11_code 58 = .ok (.iastore, 1) := by decide +kernel
theorem dc9_settle_59 : decode prog_11_method_11_code 59 = .ok (.aload_n 1, 1) := by decide +kernel
theorem dc9_settle_60 : decode prog_11_method_11_code 60 = .ok (.getfield 106, 3) := by decide +kernel
theorem dc9_settle_63 : decode prog_11_method_11_code 63 = .ok (.iload_n 2, 1) := by decide +kernel
theorem dc9_settle_64 : decode prog_11_method_11_code 64 = .ok (.sipush 999, 3) := by decide +kernel
theorem dc9_settle_67 : decode prog_11_method_11_code 67 = .ok (.aload_n 1, 1) := by decide +kernel
theorem dc9_settle_68 : decode prog_11_method_11_code 68 = .ok (.getfield 106, 3) := by decide +kernel
theorem dc9_settle_71 : decode prog_11_method_11_code 71 = .ok (.iload_n 2, 1) := by decide +kernel
theorem dc9_settle_72 : decode prog_11_method_11_code 72 = .ok (.iaload, 1) := by decide +kernel
theorem dc9_settle_73 : decode prog_11_method_11_code 73 = .ok (.aload_n 0, 1) := by decide +kernel
theorem dc9_settle_74 : decode prog_11_method_11_code 74 = .ok (.getfield 21, 3) := by decide +kernel
theorem dc9_settle_77 : decode prog_11_method_11_code 77 = .ok (.iload_n 2, 1) := by decide +kernel
theorem dc9_settle_78 : decode prog_11_method_11_code 78 = .ok (.iaload, 1) := by decide +kernel
theorem dc9_settle_79 : decode prog_11_method_11_code 79 = .ok (.iadd, 1) := by decide +kernel
theorem dc9_settle_80 : decode prog_11_method_11_code 80 = .ok (.invokestatic 98, 3) := by decide +kernel
theorem dc9_settle_83 : decode prog_11_method_11_code 83 = .ok (.iastore, 1) := by decide +kernel
theorem dc9_settle_84 : decode prog_11_method_11_code 84 = .ok (.aload_n 1, 1) := by decide +kernel
theorem dc9_settle_85 : decode prog_11_method_11_code 85 = .ok (.getfield 64, 3) := by decide +kernel
theorem dc9_settle_88 : decode prog_11_method_11_code 88 = .ok (.iload_n 2, 1) := by decide +kernel
theorem dc9_settle_89 : decode prog_11_method_11_code 89 = .ok (.iconst 0, 1) := by decide +kernel
theorem dc9_settle_90 : decode prog_11_method_11_code 90 = .ok (.aload_n 0, 1) := by decide +kernel
theorem dc9_settle_91 : decode prog_11_method_11_code 91 = .ok (.getfield 9, 3) := by decide +kernel
theorem dc9_settle_94 : decode prog_11_method_11_code 94 = .ok (.iload_n 2, 1) := by decide +kernel
theorem dc9_settle_95 : decode prog_11_method_11_code 95 = .ok (.iaload, 1) := by decide +kernel
theorem dc9_settle_96 : decode prog_11_method_11_code 96 = .ok (.aload_n 0, 1) := by decide +kernel
theorem dc9_settle_97 : decode prog_11_method_11_code 97 = .ok (.getfield 58, 3) := by decide +kernel
theorem dc9_settle_100 : decode prog_11_method_11_code 100 = .ok (.iadd, 1) := by decide +kernel
theorem dc9_settle_101 : decode prog_11_method_11_code 101 = .ok (.aload_n 0, 1) := by decide +kernel
theorem dc9_settle_102 : decode prog_11_method_11_code 102 = .ok (.getfield 18, 3) := by decide +kernel
theorem dc9_settle_105 : decode prog_11_method_11_code 105 = .ok (.iload_n 2, 1) := by decide +kernel
theorem dc9_settle_106 : decode prog_11_method_11_code 106 = .ok (.iaload, 1) := by decide +kernel
theorem dc9_settle_107 : decode prog_11_method_11_code 107 = .ok (.isub, 1) := by decide +kernel
theorem dc9_settle_108 : decode prog_11_method_11_code 108 = .ok (.sipush 999, 3) := by decide +kernel
theorem dc9_settle_111 : decode prog_11_method_11_code 111 = .ok (.invokestatic 90, 3) := by decide +kernel
theorem dc9_settle_114 : decode prog_11_method_11_code 114 = .ok (.iastore, 1) := by decide +kernel
theorem dc9_settle_115 : decode prog_11_method_11_code 115 = .ok (.iinc 2 1, 3) := by decide +kernel
theorem dc9_settle_118 : decode prog_11_method_11_code 118 = .ok (.goto (-116), 3) := by decide +kernel
theorem dc9_settle_121 : decode prog_11_method_11_code 121 = .ok (.aload_n 1, 1) := by decide +kernel
theorem dc9_settle_122 : decode prog_11_method_11_code 122 = .ok (.dup, 1) := by decide +kernel
theorem dc9_settle_123 : decode prog_11_method_11_code 123 = .ok (.getfield 81, 3) := by decide +kernel
theorem dc9_settle_126 : decode prog_11_method_11_code 126 = .ok (.iconst 1, 1) := by decide +kernel
theorem dc9_settle_127 : decode prog_11_method_11_code 127 = .ok (.iadd, 1) := by decide +kernel
theorem dc9_settle_128 : decode prog_11_method_11_code 128 = .ok (.putfield 81, 3) := by decide +kernel
theorem dc9_settle_131 : decode prog_11_method_11_code 131 = .ok (.return_, 1) := by decide +kernel
theorem dc2_isSale_0 : decode prog_4_method_11_code 0 = .ok (.iload_n 3, 1) := by decide +kernel
theorem dc2_isSale_1 : decode prog_4_method_11_code 1 = .ok (.aload_n 0, 1) := by decide +kernel
theorem dc2_isSale_2 : decode prog_4_method_11_code 2 = .ok (.getfield 43, 3) := by decide +kernel
theorem dc2_isSale_5 : decode prog_4_method_11_code 5 = .ok (.imul, 1) := by decide +kernel
theorem dc2_isSale_6 : decode prog_4_method_11_code 6 = .ok (.istore 4, 2) := by decide +kernel
theorem dc2_isSale_8 : decode prog_4_method_11_code 8 = .ok (.aload_n 0, 1) := by decide +kernel
theorem dc2_isSale_9 : decode prog_4_method_11_code 9 = .ok (.getfield 9, 3) := by decide +kernel
theorem dc2_isSale_12 : decode prog_4_method_11_code 12 = .ok (.iload_n 1, 1) := by decide +kernel
theorem dc2_isSale_13 : decode prog_4_method_11_code 13 = .ok (.iaload, 1) := by decide +kernel
theorem dc2_isSale_14 : decode prog_4_method_11_code 14 = .ok (.iload_n 3, 1) := by decide +kernel
theorem dc2_isSale_15 : decode prog_4_method_11_code 15 = .ok (.if_icmp .lt 33, 3) := by decide +kernel
theorem dc2_isSale_18 : decode prog_4_method_11_code 18 = .ok (.aload_n 0, 1) := by decide +kernel
theorem dc2_isSale_19 : decode prog_4_method_11_code 19 = .ok (.getfield 24, 3) := by decide +kernel
theorem dc2_isSale_22 : decode prog_4_method_11_code 22 = .ok (.iload_n 2, 1) := by decide +kernel
theorem dc2_isSale_23 : decode prog_4_method_11_code 23 = .ok (.iaload, 1) := by decide +kernel
theorem dc2_isSale_24 : decode prog_4_method_11_code 24 = .ok (.iload 4, 2) := by decide +kernel
theorem dc2_isSale_26 : decode prog_4_method_11_code 26 = .ok (.if_icmp .lt 22, 3) := by decide +kernel
theorem dc2_isSale_29 : decode prog_4_method_11_code 29 = .ok (.aload_n 0, 1) := by decide +kernel
theorem dc2_isSale_30 : decode prog_4_method_11_code 30 = .ok (.getfield 24, 3) := by decide +kernel
theorem dc2_isSale_33 : decode prog_4_method_11_code 33 = .ok (.iload_n 1, 1) := by decide +kernel
theorem dc2_isSale_34 : decode prog_4_method_11_code 34 = .ok (.iaload, 1) := by decide +kernel
theorem dc2_isSale_35 : decode prog_4_method_11_code 35 = .ok (.iload 4, 2) := by decide +kernel
theorem dc2_isSale_37 : decode prog_4_method_11_code 37 = .ok (.iadd, 1) := by decide +kernel
theorem dc2_isSale_38 : decode prog_4_method_11_code 38 = .ok (.sipush 999, 3) := by decide +kernel
theorem dc2_isSale_41 : decode prog_4_method_11_code 41 = .ok (.if_icmp .gt 7, 3) := by decide +kernel
theorem dc2_isSale_44 : decode prog_4_method_11_code 44 = .ok (.iconst 1, 1) := by decide +kernel
theorem dc2_isSale_45 : decode prog_4_method_11_code 45 = .ok (.goto 4, 3) := by decide +kernel
theorem dc2_isSale_48 : decode prog_4_method_11_code 48 = .ok (.iconst 0, 1) := by decide +kernel
theorem dc2_isSale_49 : decode prog_4_method_11_code 49 = .ok (.ireturn, 1) := by decide +kernel
theorem dc2_handOver_0 : decode prog_4_method_12_code 0 = .ok (.aload_n 0, 1) := by decide +kernel
theorem dc2_handOver_1 : decode prog_4_method_12_code 1 = .ok (.getfield 9, 3) := by decide +kernel
theorem dc2_handOver_4 : decode prog_4_method_12_code 4 = .ok (.iload_n 1, 1) := by decide +kernel
theorem dc2_handOver_5 : decode prog_4_method_12_code 5 = .ok (.dup2, 1) := by decide +kernel
theorem dc2_handOver_6 : decode prog_4_method_12_code 6 = .ok (.iaload, 1) := by decide +kernel
theorem dc2_handOver_7 : decode prog_4_method_12_code 7 = .ok (.iload_n 3, 1) := by decide +kernel
theorem dc2_handOver_8 : decode prog_4_method_12_code 8 = .ok (.isub, 1) := by decide +kernel
theorem dc2_handOver_9 : decode prog_4_method_12_code 9 = .ok (.iastore, 1) := by decide +kernel
theorem dc2_handOver_10 : decode prog_4_method_12_code 10 = .ok (.aload_n 0, 1) := by decide +kernel
theorem dc2_handOver_11 : decode prog_4_method_12_code 11 = .ok (.getfield 9, 3) := by decide +kernel
theorem dc2_handOver_14 : decode prog_4_method_12_code 14 = .ok (.iload_n 2, 1) := by decide +kernel
theorem dc2_handOver_15 : decode prog_4_method_12_code 15 = .ok (.sipush 999, 3) := by decide +kernel
theorem dc2_handOver_18 : decode prog_4_method_12_code 18 = .ok (.aload_n 0, 1) := by decide +kernel
theorem dc2_handOver_19 : decode prog_4_method_12_code 19 = .ok (.getfield 9, 3) := by decide +kernel
theorem dc2_handOver_22 : decode prog_4_method_12_code 22 = .ok (.iload_n 2, 1) := by decide +kernel
theorem dc2_handOver_23 : decode prog_4_method_12_code 23 = .ok (.iaload, 1) := by decide +kernel
theorem dc2_handOver_24 : decode prog_4_method_12_code 24 = .ok (.iload_n 3, 1) := by decide +kernel
theorem dc2_handOver_25 : decode prog_4_method_12_code 25 = .ok (.iadd, 1) := by decide +kernel
theorem dc2_handOver_26 : decode prog_4_method_12_code 26 = .ok (.invokestatic 49, 3) := by decide +kernel
theorem dc2_handOver_29 : decode prog_4_method_12_code 29 = .ok (.iastore, 1) := by decide +kernel
theorem dc2_handOver_30 : decode prog_4_method_12_code 30 = .ok (.aload_n 0, 1) := by decide +kernel
theorem dc2_handOver_31 : decode prog_4_method_12_code 31 = .ok (.getfield 24, 3) := by decide +kernel
theorem dc2_handOver_34 : decode prog_4_method_12_code 34 = .ok (.iload_n 1, 1) := by decide +kernel
theorem dc2_handOver_35 : decode prog_4_method_12_code 35 = .ok (.dup2, 1) := by decide +kernel
theorem dc2_handOver_36 : decode prog_4_method_12_code 36 = .ok (.iaload, 1) := by decide +kernel
theorem dc2_handOver_37 : decode prog_4_method_12_code 37 = .ok (.iload_n 3, 1) := by decide +kernel
theorem dc2_handOver_38 : decode prog_4_method_12_code 38 = .ok (.aload_n 0, 1) := by decide +kernel
theorem dc2_handOver_39 : decode prog_4_method_12_code 39 = .ok (.getfield 43, 3) := by decide +kernel
theorem dc2_handOver_42 : decode prog_4_method_12_code 42 = .ok (.imul, 1) := by decide +kernel
theorem dc2_handOver_43 : decode prog_4_method_12_code 43 = .ok (.iadd, 1) := by decide +kernel
theorem dc2_handOver_44 : decode prog_4_method_12_code 44 = .ok (.iastore, 1) := by decide +kernel
theorem dc2_handOver_45 : decode prog_4_method_12_code 45 = .ok (.aload_n 0, 1) := by decide +kernel
theorem dc2_handOver_46 : decode prog_4_method_12_code 46 = .ok (.getfield 24, 3) := by decide +kernel
theorem dc2_handOver_49 : decode prog_4_method_12_code 49 = .ok (.iload_n 2, 1) := by decide +kernel
theorem dc2_handOver_50 : decode prog_4_method_12_code 50 = .ok (.dup2, 1) := by decide +kernel
theorem dc2_handOver_51 : decode prog_4_method_12_code 51 = .ok (.iaload, 1) := by decide +kernel
theorem dc2_handOver_52 : decode prog_4_method_12_code 52 = .ok (.iload_n 3, 1) := by decide +kernel
theorem dc2_handOver_53 : decode prog_4_method_12_code 53 = .ok (.aload_n 0, 1) := by decide +kernel
theorem dc2_handOver_54 : decode prog_4_method_12_code 54 = .ok (.getfield 43, 3) := by decide +kernel
theorem dc2_handOver_57 : decode prog_4_method_12_code 57 = .ok (.imul, 1) := by decide +kernel
theorem dc2_handOver_58 : decode prog_4_method_12_code 58 = .ok (.isub, 1) := by decide +kernel
theorem dc2_handOver_59 : decode prog_4_method_12_code 59 = .ok (.iastore, 1) := by decide +kernel
theorem dc2_handOver_60 : decode prog_4_method_12_code 60 = .ok (.return_, 1) := by decide +kernel
theorem dc2_isMist_0 : decode prog_4_method_13_code 0 = .ok (.aload_n 0, 1) := by decide +kernel
theorem dc2_isMist_1 : decode prog_4_method_13_code 1 = .ok (.iload_n 1, 1) := by decide +kernel
theorem dc2_isMist_2 : decode prog_4_method_13_code 2 = .ok (.invokevirtual 55, 3) := by decide +kernel
theorem dc2_isMist_5 : decode prog_4_method_13_code 5 = .ok (.ifCond .eq 24, 3) := by decide +kernel
theorem dc2_isMist_8 : decode prog_4_method_13_code 8 = .ok (.iload_n 2, 1) := by decide +kernel
theorem dc2_isMist_9 : decode prog_4_method_13_code 9 = .ok (.invokestatic 59, 3) := by decide +kernel
theorem dc2_isMist_12 : decode prog_4_method_13_code 12 = .ok (.ifCond .eq 17, 3) := by decide +kernel
theorem dc2_isMist_15 : decode prog_4_method_13_code 15 = .ok (.iload_n 2, 1) := by decide +kernel
theorem dc2_isMist_16 : decode prog_4_method_13_code 16 = .ok (.aload_n 0, 1) := by decide +kernel
theorem dc2_isMist_17 : decode prog_4_method_13_code 17 = .ok (.getfield 9, 3) := by decide +kernel
theorem dc2_isMist_20 : decode prog_4_method_13_code 20 = .ok (.iload_n 1, 1) := by decide +kernel
theorem dc2_isMist_21 : decode prog_4_method_13_code 21 = .ok (.iaload, 1) := by decide +kernel
theorem dc2_isMist_22 : decode prog_4_method_13_code 22 = .ok (.if_icmp .gt 7, 3) := by decide +kernel
theorem dc2_isMist_25 : decode prog_4_method_13_code 25 = .ok (.iconst 1, 1) := by decide +kernel
theorem dc2_isMist_26 : decode prog_4_method_13_code 26 = .ok (.goto 4, 3) := by decide +kernel
theorem dc2_isMist_29 : decode prog_4_method_13_code 29 = .ok (.iconst 0, 1) := by decide +kernel
theorem dc2_isMist_30 : decode prog_4_method_13_code 30 = .ok (.ireturn, 1) := by decide +kernel
theorem dc2_turnToMist_0 : decode prog_4_method_14_code 0 = .ok (.aload_n 0, 1) := by decide +kernel
theorem dc2_turnToMist_1 : decode prog_4_method_14_code 1 = .ok (.getfield 9, 3) := by decide +kernel
theorem dc2_turnToMist_4 : decode prog_4_method_14_code 4 = .ok (.iload_n 1, 1) := by decide +kernel
theorem dc2_turnToMist_5 : decode prog_4_method_14_code 5 = .ok (.dup2, 1) := by decide +kernel
theorem dc2_turnToMist_6 : decode prog_4_method_14_code 6 = .ok (.iaload, 1) := by decide +kernel
theorem dc2_turnToMist_7 : decode prog_4_method_14_code 7 = .ok (.iload_n 2, 1) := by decide +kernel
theorem dc2_turnToMist_8 : decode prog_4_method_14_code 8 = .ok (.isub, 1) := by decide +kernel
theorem dc2_turnToMist_9 : decode prog_4_method_14_code 9 = .ok (.iastore, 1) := by decide +kernel
theorem dc2_turnToMist_10 : decode prog_4_method_14_code 10 = .ok (.iconst 0, 1) := by decide +kernel
theorem dc2_turnToMist_11 : decode prog_4_method_14_code 11 = .ok (.istore_n 3, 1) := by decide +kernel
theorem dc2_turnToMist_12 : decode prog_4_method_14_code 12 = .ok (.iload_n 3, 1) := by decide +kernel
theorem dc2_turnToMist_13 : decode prog_4_method_14_code 13 = .ok (.aload_n 0, 1) := by decide +kernel
theorem dc2_turnToMist_14 : decode prog_4_method_14_code 14 = .ok (.getfield 33, 3) := by decide +kernel
theorem dc2_turnToMist_17 : decode prog_4_method_14_code 17 = .ok (.if_icmp .ge 28, 3) := by decide +kernel
theorem dc2_turnToMist_20 : decode prog_4_method_14_code 20 = .ok (.aload_n 0, 1) := by decide +kernel
theorem dc2_turnToMist_21 : decode prog_4_method_14_code 21 = .ok (.getfield 18, 3) := by decide +kernel
theorem dc2_turnToMist_24 : decode prog_4_method_14_code 24 = .ok (.iload_n 3, 1) := by decide +kernel
theorem dc2_turnToMist_25 : decode prog_4_method_14_code 25 = .ok (.bipush 30, 2) := by decide +kernel
theorem dc2_turnToMist_27 : decode prog_4_method_14_code 27 = .ok (.aload_n 0, 1) := by decide +kernel
theorem dc2_turnToMist_28 : decode prog_4_method_14_code 28 = .ok (.getfield 18, 3) := by decide +kernel
theorem dc2_turnToMist_31 : decode prog_4_method_14_code 31 = .ok (.iload_n 3, 1) := by decide +kernel
theorem dc2_turnToMist_32 : decode prog_4_method_14_code 32 = .ok (.iaload, 1) := by decide +kernel
theorem dc2_turnToMist_33 : decode prog_4_method_14_code 33 = .ok (.iconst 1, 1) := by decide +kernel
theorem dc2_turnToMist_34 : decode prog_4_method_14_code 34 = .ok (.iadd, 1) := by decide +kernel
theorem dc2_turnToMist_35 : decode prog_4_method_14_code 35 = .ok (.invokestatic 49, 3) := by decide +kernel
theorem dc2_turnToMist_38 : decode prog_4_method_14_code 38 = .ok (.iastore, 1) := by decide +kernel
theorem dc2_turnToMist_39 : decode prog_4_method_14_code 39 = .ok (.iinc 3 1, 3) := by decide +kernel
theorem dc2_turnToMist_42 : decode prog_4_method_14_code 42 = .ok (.goto (-30), 3) := by decide +kernel
theorem dc2_turnToMist_45 : decode prog_4_method_14_code 45 = .ok (.return_, 1) := by decide +kernel
theorem dc2_isHedge_0 : decode prog_4_method_15_code 0 = .ok (.aload_n 0, 1) := by decide +kernel
theorem dc2_isHedge_1 : decode prog_4_method_15_code 1 = .ok (.iload_n 1, 1) := by decide +kernel
theorem dc2_isHedge_2 : decode prog_4_method_15_code 2 = .ok (.invokevirtual 55, 3) := by decide +kernel
theorem dc2_isHedge_5 : decode prog_4_method_15_code 5 = .ok (.ifCond .eq 51, 3) := by decide +kernel
theorem dc2_isHedge_8 : decode prog_4_method_15_code 8 = .ok (.aload_n 0, 1) := by decide +kernel
theorem dc2_isHedge_9 : decode prog_4_method_15_code 9 = .ok (.iload_n 1, 1) := by decide +kernel
theorem dc2_isHedge_10 : decode prog_4_method_15_code 10 = .ok (.iconst 1, 1) := by decide +kernel
theorem dc2_isHedge_11 : decode prog_4_method_15_code 11 = .ok (.iadd, 1) := by decide +kernel
theorem dc2_isHedge_12 : decode prog_4_method_15_code 12 = .ok (.invokevirtual 55, 3) := by decide +kernel
theorem dc2_isHedge_15 : decode prog_4_method_15_code 15 = .ok (.ifCond .eq 41, 3) := by decide +kernel
theorem dc2_isHedge_18 : decode prog_4_method_15_code 18 = .ok (.aload_n 0, 1) := by decide +kernel
theorem dc2_isHedge_19 : decode prog_4_method_15_code 19 = .ok (.getfield 9, 3) := by decide +kernel
theorem dc2_isHedge_22 : decode prog_4_method_15_code 22 = .ok (.iload_n 1, 1) := by decide +kernel
theorem dc2_isHedge_23 : decode prog_4_method_15_code 23 = .ok (.iaload, 1) := by decide +kernel
theorem dc2_isHedge_24 : decode prog_4_method_15_code 24 = .ok (.aload_n 0, 1) := by decide +kernel
theorem dc2_isHedge_25 : decode prog_4_method_15_code 25 = .ok (.getfield 9, 3) := by decide +kernel
theorem dc2_isHedge_28 : decode prog_4_method_15_code 28 = .ok (.iload_n 1, 1) := by decide +kernel
theorem dc2_isHedge_29 : decode prog_4_method_15_code 29 = .ok (.iconst 1, 1) := by decide +kernel
theorem dc2_isHedge_30 : decode prog_4_method_15_code 30 = .ok (.iadd, 1) := by decide +kernel
theorem dc2_isHedge_31 : decode prog_4_method_15_code 31 = .ok (.iaload, 1) := by decide +kernel
theorem dc2_isHedge_32 : decode prog_4_method_15_code 32 = .ok (.if_icmp .ne 20, 3) := by decide +kernel
theorem dc2_isHedge_35 : decode prog_4_method_15_code 35 = .ok (.aload_n 0, 1) := by decide +kernel
theorem dc2_isHedge_36 : decode prog_4_method_15_code 36 = .ok (.getfield 15, 3) := by decide +kernel
theorem dc2_isHedge_39 : decode prog_4_method_15_code 39 = .ok (.iload_n 1, 1) := by decide +kernel
theorem dc2_isHedge_40 : decode prog_4_method_15_code 40 = .ok (.iaload, 1) := by decide +kernel
theorem dc2_isHedge_41 : decode prog_4_method_15_code 41 = .ok (.aload_n 0, 1) := by decide +kernel
theorem dc2_isHedge_42 : decode prog_4_method_15_code 42 = .ok (.getfield 15, 3) := by decide +kernel
theorem dc2_isHedge_45 : decode prog_4_method_15_code 45 = .ok (.iload_n 1, 1) := by decide +kernel
theorem dc2_isHedge_46 : decode prog_4_method_15_code 46 = .ok (.iconst 1, 1) := by decide +kernel
theorem dc2_isHedge_47 : decode prog_4_method_15_code 47 = .ok (.iadd, 1) := by decide +kernel
theorem dc2_isHedge_48 : decode prog_4_method_15_code 48 = .ok (.iaload, 1) := by decide +kernel
theorem dc2_isHedge_49 : decode prog_4_method_15_code 49 = .ok (.if_icmp .eq 7, 3) := by decide +kernel
theorem dc2_isHedge_52 : decode prog_4_method_15_code 52 = .ok (.iconst 1, 1) := by decide +kernel
theorem dc2_isHedge_53 : decode prog_4_method_15_code 53 = .ok (.goto 4, 3) := by decide +kernel
theorem dc2_isHedge_56 : decode prog_4_method_15_code 56 = .ok (.iconst 0, 1) := by decide +kernel
theorem dc2_isHedge_57 : decode prog_4_method_15_code 57 = .ok (.ireturn, 1) := by decide +kernel
theorem dc2_moveHedge_0 : decode prog_4_method_16_code 0 = .ok (.aload_n 0, 1) := by decide +kernel
theorem dc2_moveHedge_1 : decode prog_4_method_16_code 1 = .ok (.getfield 9, 3) := by decide +kernel
theorem dc2_moveHedge_4 : decode prog_4_method_16_code 4 = .ok (.iload_n 1, 1) := by decide +kernel
theorem dc2_moveHedge_5 : decode prog_4_method_16_code 5 = .ok (.iaload, 1) := by decide +kernel
theorem dc2_moveHedge_6 : decode prog_4_method_16_code 6 = .ok (.istore_n 2, 1) := by decide +kernel
theorem dc2_moveHedge_7 : decode prog_4_method_16_code 7 = .ok (.aload_n 0, 1) := by decide +kernel
theorem dc2_moveHedge_8 : decode prog_4_method_16_code 8 = .ok (.getfield 9, 3) := by decide +kernel
theorem dc2_moveHedge_11 : decode prog_4_method_16_code 11 = .ok (.iload_n 1, 1) := by decide +kernel
theorem dc2_moveHedge_12 : decode prog_4_method_16_code 12 = .ok (.aload_n 0, 1) := by decide +kernel
theorem dc2_moveHedge_13 : decode prog_4_method_16_code 13 = .ok (.getfield 9, 3) := by decide +kernel
theorem dc2_moveHedge_16 : decode prog_4_method_16_code 16 = .ok (.iload_n 1, 1) := by decide +kernel
theorem dc2_moveHedge_17 : decode prog_4_method_16_code 17 = .ok (.iconst 1, 1) := by decide +kernel
theorem dc2_moveHedge_18 : decode prog_4_method_16_code 18 = .ok (.iadd, 1) := by decide +kernel
theorem dc2_moveHedge_19 : decode prog_4_method_16_code 19 = .ok (.iaload, 1) := by decide +kernel
theorem dc2_moveHedge_20 : decode prog_4_method_16_code 20 = .ok (.iastore, 1) := by decide +kernel
theorem dc2_moveHedge_21 : decode prog_4_method_16_code 21 = .ok (.aload_n 0, 1) := by decide +kernel
theorem dc2_moveHedge_22 : decode prog_4_method_16_code 22 = .ok (.getfield 9, 3) := by decide +kernel
theorem dc2_moveHedge_25 : decode prog_4_method_16_code 25 = .ok (.iload_n 1, 1) := by decide +kernel
theorem dc2_moveHedge_26 : decode prog_4_method_16_code 26 = .ok (.iconst 1, 1) := by decide +kernel
theorem dc2_moveHedge_27 : decode prog_4_method_16_code 27 = .ok (.iadd, 1) := by decide +kernel
theorem dc2_moveHedge_28 : decode prog_4_method_16_code 28 = .ok (.iload_n 2, 1) := by decide +kernel
theorem dc2_moveHedge_29 : decode prog_4_method_16_code 29 = .ok (.iastore, 1) := by decide +kernel
theorem dc2_moveHedge_30 : decode prog_4_method_16_code 30 = .ok (.aload_n 0, 1) := by decide +kernel
theorem dc2_moveHedge_31 : decode prog_4_method_16_code 31 = .ok (.getfield 15, 3) := by decide +kernel
theorem dc2_moveHedge_34 : decode prog_4_method_16_code 34 = .ok (.iload_n 1, 1) := by decide +kernel
theorem dc2_moveHedge_35 : decode prog_4_method_16_code 35 = .ok (.iaload, 1) := by decide +kernel
theorem dc2_moveHedge_36 : decode prog_4_method_16_code 36 = .ok (.istore_n 3, 1) := by decide +kernel
theorem dc2_moveHedge_37 : decode prog_4_method_16_code 37 = .ok (.aload_n 0, 1) := by decide +kernel
theorem dc2_moveHedge_38 : decode prog_4_method_16_code 38 = .ok (.getfield 15, 3) := by decide +kernel
theorem dc2_moveHedge_41 : decode prog_4_method_16_code 41 = .ok (.iload_n 1, 1) := by decide +kernel
theorem dc2_moveHedge_42 : decode prog_4_method_16_code 42 = .ok (.aload_n 0, 1) := by decide +kernel
theorem dc2_moveHedge_43 : decode prog_4_method_16_code 43 = .ok (.getfield 15, 3) := by decide +kernel
theorem dc2_moveHedge_46 : decode prog_4_method_16_code 46 = .ok (.iload_n 1, 1) := by decide +kernel
theorem dc2_moveHedge_47 : decode prog_4_method_16_code 47 = .ok (.iconst 1, 1) := by decide +kernel
theorem dc2_moveHedge_48 : decode prog_4_method_16_code 48 = .ok (.iadd, 1) := by decide +kernel
theorem dc2_moveHedge_49 : decode prog_4_method_16_code 49 = .ok (.iaload, 1) := by decide +kernel
theorem dc2_moveHedge_50 : decode prog_4_method_16_code 50 = .ok (.iastore, 1) := by decide +kernel
theorem dc2_moveHedge_51 : decode prog_4_method_16_code 51 = .ok (.aload_n 0, 1) := by decide +kernel
theorem dc2_moveHedge_52 : decode prog_4_method_16_code 52 = .ok (.getfield 15, 3) := by decide +kernel
theorem dc2_moveHedge_55 : decode prog_4_method_16_code 55 = .ok (.iload_n 1, 1) := by decide +kernel
theorem dc2_moveHedge_56 : decode prog_4_method_16_code 56 = .ok (.iconst 1, 1) := by decide +kernel
theorem dc2_moveHedge_57 : decode prog_4_method_16_code 57 = .ok (.iadd, 1) := by decide +kernel
theorem dc2_moveHedge_58 : decode prog_4_method_16_code 58 = .ok (.iload_n 3, 1) := by decide +kernel
theorem dc2_moveHedge_59 : decode prog_4_method_16_code 59 = .ok (.iastore, 1) := by decide +kernel
theorem dc2_moveHedge_60 : decode prog_4_method_16_code 60 = .ok (.return_, 1) := by decide +kernel
theorem dc2_isCan_0 : decode prog_4_method_17_code 0 = .ok (.aload_n 0, 1) := by decide +kernel
theorem dc2_isCan_1 : decode prog_4_method_17_code 1 = .ok (.iload_n 1, 1) := by decide +kernel
theorem dc2_isCan_2 : decode prog_4_method_17_code 2 = .ok (.invokevirtual 55, 3) := by decide +kernel
theorem dc2_isCan_5 : decode prog_4_method_17_code 5 = .ok (.ifCond .eq 28, 3) := by decide +kernel
theorem dc2_isCan_8 : decode prog_4_method_17_code 8 = .ok (.aload_n 0, 1) := by decide +kernel
theorem dc2_isCan_9 : decode prog_4_method_17_code 9 = .ok (.getfield 24, 3) := by decide +kernel
theorem dc2_isCan_12 : decode prog_4_method_17_code 12 = .ok (.iload_n 1, 1) := by decide +kernel
theorem dc2_isCan_13 : decode prog_4_method_17_code 13 = .ok (.iaload, 1) := by decide +kernel
theorem dc2_isCan_14 : decode prog_4_method_17_code 14 = .ok (.iconst 3, 1) := by decide +kernel
theorem dc2_isCan_15 : decode prog_4_method_17_code 15 = .ok (.if_icmp .lt 18, 3) := by decide +kernel
theorem dc2_isCan_18 : decode prog_4_method_17_code 18 = .ok (.aload_n 0, 1) := by decide +kernel
theorem dc2_isCan_19 : decode prog_4_method_17_code 19 = .ok (.getfield 18, 3) := by decide +kernel
theorem dc2_isCan_22 : decode prog_4_method_17_code 22 = .ok (.iload_n 1, 1) := by decide +kernel
theorem dc2_isCan_23 : decode prog_4_method_17_code 23 = .ok (.iaload, 1) := by decide +kernel
theorem dc2_isCan_24 : decode prog_4_method_17_code 24 = .ok (.bipush 30, 2) := by decide +kernel
theorem dc2_isCan_26 : decode prog_4_method_17_code 26 = .ok (.if_icmp .ge 7, 3) := by decide +kernel
theorem dc2_isCan_29 : decode prog_4_method_17_code 29 = .ok (.iconst 1, 1) := by decide +kernel
theorem dc2_isCan_30 : decode prog_4_method_17_code 30 = .ok (.goto 4, 3) := by decide +kernel
theorem dc2_isCan_33 : decode prog_4_method_17_code 33 = .ok (.iconst 0, 1) := by decide +kernel
theorem dc2_isCan_34 : decode prog_4_method_17_code 34 = .ok (.ireturn, 1) := by decide +kernel
theorem dc2_fillCan_0 : decode prog_4_method_18_code 0 = .ok (.aload_n 0, 1) := by decide +kernel
theorem dc2_fillCan_1 : decode prog_4_method_18_code 1 = .ok (.getfield 24, 3) := by decide +kernel
theorem dc2_fillCan_4 : decode prog_4_method_18_code 4 = .ok (.iload_n 1, 1) := by decide +kernel
theorem dc2_fillCan_5 : decode prog_4_method_18_code 5 = .ok (.dup2, 1) := by decide +kernel
theorem dc2_fillCan_6 : decode prog_4_method_18_code 6 = .ok (.iaload, 1) := by decide +kernel
theorem dc2_fillCan_7 : decode prog_4_method_18_code 7 = .ok (.iconst 3, 1) := by decide +kernel
theorem dc2_fillCan_8 : decode prog_4_method_18_code 8 = .ok (.isub, 1) := by decide +kernel
theorem dc2_fillCan_9 : decode prog_4_method_18_code 9 = .ok (.iastore, 1) := by decide +kernel
theorem dc2_fillCan_10 : decode prog_4_method_18_code 10 = .ok (.aload_n 0, 1) := by decide +kernel
theorem dc2_fillCan_11 : decode prog_4_method_18_code 11 = .ok (.getfield 18, 3) := by decide +kernel
theorem dc2_fillCan_14 : decode prog_4_method_18_code 14 = .ok (.iload_n 1, 1) := by decide +kernel
theorem dc2_fillCan_15 : decode prog_4_method_18_code 15 = .ok (.bipush 30, 2) := by decide +kernel
theorem dc2_fillCan_17 : decode prog_4_method_18_code 17 = .ok (.aload_n 0, 1) := by decide +kernel
theorem dc2_fillCan_18 : decode prog_4_method_18_code 18 = .ok (.getfield 18, 3) := by decide +kernel
theorem dc2_fillCan_21 : decode prog_4_method_18_code 21 = .ok (.iload_n 1, 1) := by decide +kernel
theorem dc2_fillCan_22 : decode prog_4_method_18_code 22 = .ok (.iaload, 1) := by decide +kernel
theorem dc2_fillCan_23 : decode prog_4_method_18_code 23 = .ok (.iconst 2, 1) := by decide +kernel
theorem dc2_fillCan_24 : decode prog_4_method_18_code 24 = .ok (.iadd, 1) := by decide +kernel
theorem dc2_fillCan_25 : decode prog_4_method_18_code 25 = .ok (.invokestatic 49, 3) := by decide +kernel
theorem dc2_fillCan_28 : decode prog_4_method_18_code 28 = .ok (.iastore, 1) := by decide +kernel
theorem dc2_fillCan_29 : decode prog_4_method_18_code 29 = .ok (.return_, 1) := by decide +kernel
theorem dc5_restore_0 : decode prog_7_method_3_code 0 = .ok (.aload_n 0, 1) := by decide +kernel
theorem dc5_restore_1 : decode prog_7_method_3_code 1 = .ok (.getfield 33, 3) := by decide +kernel
theorem dc5_restore_4 : decode prog_7_method_3_code 4 = .ok (.ifCond .ne 5, 3) := by decide +kernel
theorem dc5_restore_7 : decode prog_7_method_3_code 7 = .ok (.iconst 0, 1) := by decide +kernel
theorem dc5_restore_8 : decode prog_7_method_3_code 8 = .ok (.ireturn, 1) := by decide +kernel
theorem dc5_restore_9 : decode prog_7_method_3_code 9 = .ok (.aload_n 0, 1) := by decide +kernel
theorem dc5_restore_10 : decode prog_7_method_3_code 10 = .ok (.aload_n 0, 1) := by decide +kernel
